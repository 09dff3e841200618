/** The section 'Terms' ahead of its first part: REFUSALS, their order, and that what is refused changes nothing. */
public final class RefusedCalls {
    private static final int NONE = Due.NONE, UNKNOWN = Due.UNKNOWN, OUTSIDE = Due.OUTSIDE, NOT = Due.NOT, FULL = Due.FULL;

    // ---- where a refused call finds the object

    /** No COUNTIES. */
    private static void empty(SwallowCount x) {
        Due.feed(x, "t");
        x.seed(7);
    }

    /** No room for what is SEEN, for ROUGH counts, in THE BOOK. */
    private static void written(SwallowCount x) {
        Due.landIn(x, Scenes.LAND);
        x.mud(0, 1);
        for (int k = 0; k < 15; k++) {
            x.see(k % 3, 20 - k);
            x.rough(k % 8, 4 * k);
            x.write(k % 2, k);
        }
    }

    /** No room in THE TEXT. */
    private static void told(SwallowCount x) {
        Due.landIn(x, "t1 1 1;b0 9 5 1 0;");
        Due.feed(x, "t1 2 3;" + " ".repeat(233));
    }

    /** YEARS are above 9000. */
    private static void old(SwallowCount x) {
        Due.landIn(x, Scenes.LAND);
        for (int k = 0; k < 90; k++) {
            x.year(99);
        }
        x.year(90);
        x.keep(0);
        x.year(1);
    }

    private static void onBusy(String call, int refusal, Due.Call asked) {
        Due.refused(call, refusal, Scenes::busy, asked);
    }

    private static void onEmpty(String call, int refusal, Due.Call asked) {
        Due.refused(call, refusal, RefusedCalls::empty, asked);
    }

    private static void onWritten(String call, int refusal, Due.Call asked) {
        Due.refused(call, refusal, RefusedCalls::written, asked);
    }

    private static void onOld(String call, int refusal, Due.Call asked) {
        Due.refused(call, refusal, RefusedCalls::old, asked);
    }

    // ---- what is refused changes nothing, one group for each part of the face

    private static void theLandChangesNothing() {
        Due.sentence("What is refused changes nothing.");
        onBusy("feed(-1)", OUTSIDE, x -> x.feed(-1));
        onBusy("feed(256)", OUTSIDE, x -> x.feed(256));
        Due.refused("feed(65)", FULL, RefusedCalls::told, x -> x.feed(65));
        Due.refused("feed(256)", OUTSIDE, RefusedCalls::told, x -> x.feed(256));
        onBusy("told(-1)", OUTSIDE, x -> x.told(-1));
        onBusy("told(15)", OUTSIDE, x -> x.told(15));
        onBusy("barn(-1, 0)", UNKNOWN, x -> x.barn(-1, 0));
        onBusy("barn(3, 0)", UNKNOWN, x -> x.barn(3, 0));
        onBusy("barn(0, -1)", OUTSIDE, x -> x.barn(0, -1));
        onBusy("barn(0, 7)", OUTSIDE, x -> x.barn(0, 7));
        onEmpty("barn(0, 0)", UNKNOWN, x -> x.barn(0, 0));
    }

    private static void deedsChangeNothing() {
        Due.sentence("What is refused changes nothing.");
        onBusy("year(0)", OUTSIDE, x -> x.year(0));
        onBusy("year(100)", OUTSIDE, x -> x.year(100));
        onEmpty("year(1)", NOT, x -> x.year(1));
        onOld("year(1)", FULL, x -> x.year(1));
        onBusy("open(-1, false)", UNKNOWN, x -> x.open(-1, false));
        onBusy("open(3, false)", UNKNOWN, x -> x.open(3, false));
        onBusy("open(34, true)", UNKNOWN, x -> x.open(34, true));
        onBusy("move(0, 3, 1)", UNKNOWN, x -> x.move(0, 3, 1));
        onBusy("move(3, 0, 1)", UNKNOWN, x -> x.move(3, 0, 1));
        onBusy("move(1, 1, 1)", UNKNOWN, x -> x.move(1, 1, 1));
        onBusy("move(0, 1, 0)", OUTSIDE, x -> x.move(0, 1, 0));
        onBusy("move(0, 1, 41)", OUTSIDE, x -> x.move(0, 1, 41));
        onBusy("move(1, 0, 40)", NOT, x -> x.move(1, 0, 40));
        onBusy("move(0, 2, 9)", NOT, x -> x.move(0, 2, 9));
        onBusy("mud(3, 1)", UNKNOWN, x -> x.mud(3, 1));
        onBusy("mud(0, 0)", OUTSIDE, x -> x.mud(0, 0));
        onBusy("mud(0, 10)", OUTSIDE, x -> x.mud(0, 10));
        onBusy("ring(3, 1)", UNKNOWN, x -> x.ring(3, 1));
        onBusy("ring(0, 0)", OUTSIDE, x -> x.ring(0, 0));
        onBusy("ring(0, 41)", OUTSIDE, x -> x.ring(0, 41));
        onBusy("ring(0, 40)", NOT, x -> x.ring(0, 40));
        onBusy("drift(0)", OUTSIDE, x -> x.drift(0));
        onBusy("drift(100)", OUTSIDE, x -> x.drift(100));
        onEmpty("drift(1)", NOT, x -> x.drift(1));
        onOld("drift(1)", FULL, x -> x.drift(1));
        onEmpty("undo()", NOT, x -> x.undo());
        Due.refused("undo()", NOT, x -> {
            Scenes.busy(x);
            x.keep(1);
        }, x -> x.undo());
    }

    private static void trialsChangeNothing() {
        Due.sentence("What is refused changes nothing.");
        onBusy("count(2, 0, 0)", UNKNOWN, x -> x.count(2, 0, 0));
        onBusy("count(0, 61, 0)", OUTSIDE, x -> x.count(0, 61, 0));
        onBusy("count(0, 0, 3)", OUTSIDE, x -> x.count(0, 0, 3));
        onBusy("leave(2, 0, 0)", UNKNOWN, x -> x.leave(2, 0, 0));
        onBusy("leave(0, 100, 0)", OUTSIDE, x -> x.leave(0, 100, 0));
        onBusy("leave(0, 0, 100)", OUTSIDE, x -> x.leave(0, 0, 100));
        onBusy("counters(2)", UNKNOWN, x -> x.counters(2));
        onBusy("game(0, 2, -1)", UNKNOWN, x -> x.game(0, 2, -1));
        onBusy("game(1, 1, -1)", UNKNOWN, x -> x.game(1, 1, -1));
        onBusy("leastMud(2, -1)", UNKNOWN, x -> x.leastMud(2, -1));
        onBusy("leastMud(0, 1)", UNKNOWN, x -> x.leastMud(0, 1));
        onBusy("votes(2)", UNKNOWN, x -> x.votes(2));
        onBusy("spring(31, 0)", OUTSIDE, x -> x.spring(31, 0));
        onBusy("spring(0, 101)", OUTSIDE, x -> x.spring(0, 101));
    }

    private static void recordsChangeNothing() {
        Due.sentence("What is refused changes nothing.");
        onBusy("see(3, 0)", UNKNOWN, x -> x.see(3, 0));
        onBusy("see(0, 41)", OUTSIDE, x -> x.see(0, 41));
        onWritten("see(0, 0)", FULL, x -> x.see(0, 0));
        onBusy("rough(8, 0)", UNKNOWN, x -> x.rough(8, 0));
        onBusy("rough(1, 321)", OUTSIDE, x -> x.rough(1, 321));
        onWritten("rough(1, 0)", FULL, x -> x.rough(1, 0));
        onBusy("span(3, 0)", UNKNOWN, x -> x.span(3, 0));
        onBusy("span(0, 2)", OUTSIDE, x -> x.span(0, 2));
        onBusy("write(2, 0)", UNKNOWN, x -> x.write(2, 0));
        onBusy("write(0, 321)", OUTSIDE, x -> x.write(0, 321));
        onWritten("write(0, 0)", FULL, x -> x.write(0, 0));
        onBusy("seed(-1)", OUTSIDE, x -> x.seed(-1));
        onBusy("keep(-1)", UNKNOWN, x -> x.keep(-1));
        onBusy("keep(2)", UNKNOWN, x -> x.keep(2));
        onBusy("goBack(-1)", UNKNOWN, x -> x.goBack(-1));
        onBusy("goBack(2)", UNKNOWN, x -> x.goBack(2));
        onBusy("goBack(1)", NOT, x -> x.goBack(1));
        onEmpty("goBack(0)", NOT, x -> x.goBack(0));
    }

    // ---- of several the first

    private static void unknownAheadOfOutside() {
        Due.sentence("REFUSALS, of several the first in this order: UNKNOWN");
        onBusy("barn(3, 7)", UNKNOWN, x -> x.barn(3, 7));
        onBusy("move(3, 0, 0)", UNKNOWN, x -> x.move(3, 0, 0));
        onBusy("move(0, 3, 41)", UNKNOWN, x -> x.move(0, 3, 41));
        onBusy("move(1, 1, 0)", UNKNOWN, x -> x.move(1, 1, 0));
        onBusy("mud(3, 0)", UNKNOWN, x -> x.mud(3, 0));
        onBusy("ring(3, 41)", UNKNOWN, x -> x.ring(3, 41));
        onBusy("count(2, 61, 3)", UNKNOWN, x -> x.count(2, 61, 3));
        onBusy("leave(2, 100, 100)", UNKNOWN, x -> x.leave(2, 100, 100));
        onBusy("see(3, 41)", UNKNOWN, x -> x.see(3, 41));
        onBusy("rough(8, 321)", UNKNOWN, x -> x.rough(8, 321));
        onBusy("span(3, 2)", UNKNOWN, x -> x.span(3, 2));
        onBusy("write(2, 321)", UNKNOWN, x -> x.write(2, 321));
        // and ahead of NOT, FULL, NONE
        onBusy("move(1, 1, 40)", UNKNOWN, x -> x.move(1, 1, 40));
        onBusy("ring(3, 40)", UNKNOWN, x -> x.ring(3, 40));
        onEmpty("move(0, 1, 1)", UNKNOWN, x -> x.move(0, 1, 1));
        onEmpty("goBack(2)", UNKNOWN, x -> x.goBack(2));
        onWritten("see(3, 0)", UNKNOWN, x -> x.see(3, 0));
        onWritten("see(3, 41)", UNKNOWN, x -> x.see(3, 41));
        onWritten("rough(8, 0)", UNKNOWN, x -> x.rough(8, 0));
        onWritten("rough(8, 321)", UNKNOWN, x -> x.rough(8, 321));
        onWritten("write(2, 0)", UNKNOWN, x -> x.write(2, 0));
        onWritten("write(2, 321)", UNKNOWN, x -> x.write(2, 321));
        onBusy("game(0, 0, -2)", UNKNOWN, x -> x.game(0, 0, -2));
        onBusy("game(2, 0, -2)", UNKNOWN, x -> x.game(2, 0, -2));
    }

    private static void outsideAheadOfNotAndFull() {
        Due.sentence("OUTSIDE (another number out of its bounds), NOT (not now, as told), FULL.");
        onEmpty("year(0)", OUTSIDE, x -> x.year(0));
        onEmpty("year(100)", OUTSIDE, x -> x.year(100));
        onEmpty("drift(0)", OUTSIDE, x -> x.drift(0));
        onEmpty("drift(100)", OUTSIDE, x -> x.drift(100));
        onOld("year(0)", OUTSIDE, x -> x.year(0));
        onOld("year(100)", OUTSIDE, x -> x.year(100));
        onOld("drift(0)", OUTSIDE, x -> x.drift(0));
        onOld("drift(100)", OUTSIDE, x -> x.drift(100));
        onBusy("move(0, 1, 41), not so many", OUTSIDE, x -> x.move(0, 1, 41));
        onBusy("ring(0, 41), more than NESTS", OUTSIDE, x -> x.ring(0, 41));
        onWritten("see(0, 41)", OUTSIDE, x -> x.see(0, 41));
        onWritten("see(0, -1)", OUTSIDE, x -> x.see(0, -1));
        onWritten("rough(1, 321)", OUTSIDE, x -> x.rough(1, 321));
        onWritten("rough(1, -1)", OUTSIDE, x -> x.rough(1, -1));
        onWritten("write(0, 321)", OUTSIDE, x -> x.write(0, 321));
        onWritten("write(0, -1)", OUTSIDE, x -> x.write(0, -1));
    }

    // ---- UNKNOWN

    private static void whatThereIsNot() {
        Due.sentence("(a BARN, COUNTY, IMAGE that there is not; one twice; bits of such)");
        SwallowCount x = Due.landOf(Due.eightBarns("t4 1 1;", "b3 9 5 9 0;"));
        Due.is("BARN 7", x.barn(7, 2), 5);
        Due.is("COUNTY 3", x.counters(3), 8);
        Due.is("IMAGE 1", x.keep(1), 1);
        Due.is("IMAGE 2", x.keep(2), UNKNOWN);
        Due.is("all bits", x.rough(255, 40), 1);
        for (int there : new int[] {Due.LEAST, -1, 8, 32, 39, Due.MOST}) {
            Due.is("BARN " + there, x.barn(there, 2), UNKNOWN);
            Due.is("open", x.open(there, false), UNKNOWN);
            Due.is("move from", x.move(there, 0, 1), UNKNOWN);
            Due.is("move to", x.move(0, there, 1), UNKNOWN);
            Due.is("mud", x.mud(there, 1), UNKNOWN);
            Due.is("ring", x.ring(there, 1), UNKNOWN);
            Due.is("see", x.see(there, 1), UNKNOWN);
            Due.is("span", x.span(there, 1), UNKNOWN);
        }
        for (int there : new int[] {Due.LEAST, -1, 4, 8, Due.MOST}) {
            Due.is("COUNTY " + there, x.count(there, 0, 0), UNKNOWN);
            Due.is("leave", x.leave(there, 0, 99), UNKNOWN);
            Due.is("counters", x.counters(there), UNKNOWN);
            Due.is("game", x.game(there, 0, NONE), UNKNOWN);
            Due.is("game", x.game(0, there, NONE), UNKNOWN);
            Due.is("leastMud", x.leastMud(there, NONE), UNKNOWN);
            Due.is("votes", x.votes(there), UNKNOWN);
            Due.is("write", x.write(there, 0), UNKNOWN);
        }
        Due.is("game of two that there are not", x.game(4, 4, NONE), UNKNOWN);
        Due.is("one twice", x.move(7, 7, 1), UNKNOWN);
        Due.is("one twice", x.game(3, 3, NONE), UNKNOWN);
        for (int set : new int[] {Due.LEAST, -256, -1, 256, 511, 65536, Due.MOST}) {
            Due.is("bits of " + set, x.rough(set, 0), UNKNOWN);
        }
        Due.told(x, 4, 1, 1, 8, 0, 0, 5, 0, 40, 0, 0, 0, 1, 0, 0);
    }

    private static void ofAnEarlierLand() {
        Due.sentence("(a BARN, COUNTY, IMAGE that there is not; one twice; bits of such)");
        SwallowCount x = Due.landOf("t4 1 1;b3 9 5 9 0;b2 9 5 9 0;b1 9 5 9 0;");
        Due.landIn(x, "t2 1 1;b1 9 4 9 0;");
        Due.is("BARN 0", x.barn(0, 2), 4);
        Due.is("BARN 1", x.barn(1, 2), UNKNOWN);
        Due.is("bits", x.rough(2, 0), UNKNOWN);
        Due.is("COUNTY 1", x.count(1, 0, 0), 4);
        Due.is("COUNTY 2", x.count(2, 0, 0), UNKNOWN);
        Due.is("NESTS of all", x.told(8), 4);
        Due.is("uncounted()", x.uncounted(), 1);
        x.land();
        Due.is("BARN 0", x.barn(0, 2), UNKNOWN);
        Due.is("COUNTY 0", x.count(0, 0, 0), UNKNOWN);
        Due.is("an empty SET has no bits", x.rough(0, 0), 1);
    }

    // ---- numbers

    private static void numbers() {
        Due.sentence("NONE is -1.");
        Due.is("NONE", SwallowCount.NONE, -1);
        Due.sentence("They are far below all that is counted: -1000000001 and on.");
        Due.is("UNKNOWN", SwallowCount.UNKNOWN, -1000000001);
        Due.is("OUTSIDE", SwallowCount.OUTSIDE, -1000000002);
        Due.is("NOT", SwallowCount.NOT, -1000000003);
        Due.is("FULL", SwallowCount.FULL, -1000000004);
        Due.sentence("BILLION is 1000000000.");
        Due.is("spring(0, 0)", new SwallowCount().spring(0, 0), 1000000000);
        Due.sentence("/ cuts towards 0.");
        SwallowCount x = Due.landOf("t3 5 5;b0 9 4 9 0;b1 9 5 9 0;b2 9 9 9 0;");
        for (int c = 0; c < 3; c++) {
            Due.is("SEATS", x.count(c, 0, 1), c == 0 ? 0 : 1);
            Due.is("MEN", x.count(c, 0, 2), c == 0 ? 0 : 1);
        }
    }

    private static void fromZeroOn() {
        Due.sentence("What has a number has it from 0 on, as it comes.");
        SwallowCount x = Due.landOf("t4 1 1;b3 9 1 9 0;b0 9 2 9 0;b3 9 3 9 0;");
        Due.nests(x, 1, 2, 3);
        Due.is("COUNTY 0", x.count(0, 0, 0), 2);
        Due.is("COUNTY 3", x.count(3, 0, 0), 4);
        x.write(0, 3);
        Due.is("entry 0", x.judge(), 0);
        Due.sentence("A SET is a whole number, bit k for k (of BARNS, if nothing else is told).");
        x.open(0, false);
        Due.is("told(7)", x.told(7), 1);
        x.open(2, false);
        Due.is("told(7)", x.told(7), 5);
        Due.is("leave", x.leave(3, 0, 99), 5);
        Due.is("uncounted()", x.uncounted(), 7);
        x.rough(2, 2);
        Due.is("uncounted()", x.uncounted(), 5);
    }

    public static void main(String[] args) {
        theLandChangesNothing();
        deedsChangeNothing();
        trialsChangeNothing();
        recordsChangeNothing();
        unknownAheadOfOutside();
        outsideAheadOfNotAndFull();
        whatThereIsNot();
        ofAnEarlierLand();
        numbers();
        fromZeroOn();
        Due.end();
    }
}
