/** One group of calls for each promise; the answers are worked out by hand from the document. */
public final class PromiseRuns {
    private static final int NONE = -1, UNKNOWN = -1000000001, OUTSIDE = -1000000002, NOT = -1000000003, FULL = -1000000004;
    private static int wrong = 0;
    private static int promise = 0;

    private static void due(String call, int got, int want) {
        if (got != want) {
            wrong++;
            System.out.println("promise " + promise + ": " + call + " answered " + got + ", due is " + want);
        }
    }

    private static SwallowCount landOf(String text) {
        SwallowCount x = new SwallowCount();
        landIn(x, text);
        return x;
    }

    private static void landIn(SwallowCount x, String text) {
        for (int i = 0; i < text.length(); i++) {
            x.feed(text.charAt(i));
        }
        int barns = text.length() - text.replace("b", "").length();
        due("land() of '" + text + "'", x.land(), barns);
    }

    private static void nestsAre(SwallowCount x, int... nests) {
        for (int b = 0; b < nests.length; b++) {
            due("NESTS of BARN " + b, x.barn(b, 2), nests[b]);
        }
    }

    private static void aNewObject() {
        SwallowCount x = new SwallowCount();
        for (int what = 0; what <= 14; what++) {
            due("told(" + what + ")", x.told(what), what == 6 ? 5 : 0);
        }
        due("fault()", x.fault(), NONE);
        due("barn(0, 0)", x.barn(0, 0), UNKNOWN);
        due("open(0, true)", x.open(0, true), UNKNOWN);
        due("move(0, 1, 1)", x.move(0, 1, 1), UNKNOWN);
        due("mud(0, 1)", x.mud(0, 1), UNKNOWN);
        due("ring(0, 1)", x.ring(0, 1), UNKNOWN);
        due("year(1)", x.year(1), NOT);
        due("drift(1)", x.drift(1), NOT);
        due("undo()", x.undo(), NOT);
        due("count(0, 0, 0)", x.count(0, 0, 0), UNKNOWN);
        due("leave(0, 0, 0)", x.leave(0, 0, 0), UNKNOWN);
        due("counters(0)", x.counters(0), UNKNOWN);
        due("game(0, 1, -1)", x.game(0, 1, -1), UNKNOWN);
        due("leastMud(0, -1)", x.leastMud(0, -1), UNKNOWN);
        due("votes(0)", x.votes(0), UNKNOWN);
        due("elected()", x.elected(), NONE);
        due("see(0, 0)", x.see(0, 0), UNKNOWN);
        due("moved(-1)", x.moved(-1), 0);
        due("moved(0)", x.moved(0), NONE);
        due("rough(1, 0)", x.rough(1, 0), UNKNOWN);
        due("rough(0, 0)", x.rough(0, 0), 1);
        due("span(0, 0)", x.span(0, 0), UNKNOWN);
        due("uncounted()", x.uncounted(), 0);
        due("write(0, 0)", x.write(0, 0), UNKNOWN);
        due("tear()", x.tear(), 1);
        due("judge()", x.judge(), NONE);
        due("goBack(0)", x.goBack(0), NOT);
        due("keep(0)", x.keep(0), 1);
        due("goBack(0)", x.goBack(0), 1);
    }

    private static void aLandTakesThePlaceOfAnother() {
        SwallowCount x = landOf("t2 2 3;b0 9 5 1 0;b1 9 5 1 0;w9,1;");
        x.seed(77);
        x.year(2);
        x.ring(0, 2);
        x.keep(0);
        x.keep(1);
        x.open(1, false);
        x.see(0, 1);
        x.rough(1, 1);
        x.write(0, 1);
        landIn(x, "t1 4 5;b0 3 2 7 2;");
        int[] told = {1, 4, 5, 1, 0, 0, 5, 0, 2, 0, 0, 0, 0, 0, 0};
        for (int what = 0; what < told.length; what++) {
            due("told(" + what + ")", x.told(what), told[what]);
        }
        int[] barn = {0, 3, 2, 7, 2, 0, 0};
        for (int what = 0; what < barn.length; what++) {
            due("barn(0, " + what + ")", x.barn(0, what), barn[what]);
        }
        due("barn(1, 0)", x.barn(1, 0), UNKNOWN);
        due("undo()", x.undo(), NOT);
        due("goBack(0)", x.goBack(0), NOT);
        due("goBack(1)", x.goBack(1), NOT);
        due("seed(0)", x.seed(0), 77);
        due("land()", x.land(), 0);
        due("told(0)", x.told(0), 0);
        due("told(3)", x.told(3), 0);
        due("told(8)", x.told(8), 0);
        due("year(1)", x.year(1), NOT);
    }

    private static void told() {
        SwallowCount x = landOf("t2 3 4;b0 9 5 9 0;b1 9 6 9 1;w6,7;");
        x.feed('t');
        due("told(4)", x.told(4), 1);
        x.year(1);
        x.open(1, false);
        x.ring(0, 3);
        x.ring(1, 1);
        x.see(0, 0);
        x.see(1, 0);
        x.rough(3, 0);
        x.write(0, 1);
        x.write(0, 1);
        x.write(0, 1);
        int[] want = {2, 3, 4, 2, 1, 1, 7, 2, 9, 2, 4, 2, 1, 3, 4};
        for (int what = 0; what < want.length; what++) {
            due("told(" + what + ")", x.told(what), want[what]);
        }
        due("told(-1)", x.told(-1), OUTSIDE);
        due("told(15)", x.told(15), OUTSIDE);
        x.year(1);
        due("told(6) starts over", x.told(6), 6);
    }

    private static void barn() {
        SwallowCount x = landOf("t2 3 4;b0 9 5 8 0;b1 11 6 7 3;");
        x.ring(1, 4);
        x.open(1, false);
        int[] want = {1, 11, 6, 7, 3, 4, 1};
        for (int what = 0; what < want.length; what++) {
            due("barn(1, " + what + ")", x.barn(1, what), want[what]);
        }
        due("barn(0, 6)", x.barn(0, 6), 0);
        due("barn(0, -1)", x.barn(0, -1), OUTSIDE);
        due("barn(0, 7)", x.barn(0, 7), OUTSIDE);
        due("barn(-1, 0)", x.barn(-1, 0), UNKNOWN);
        due("barn(2, 7)", x.barn(2, 7), UNKNOWN);
    }

    private static void yearOfKinds() {
        // RAIN 7: plain 10 + 10*5/10; CAT 10 - 3 + 7*7/10; GLAZED none; MILL 10 + 10*3/10 + 3/2
        SwallowCount x = landOf("t1 1 1;b0 40 10 2 0;b0 40 10 0 1;b0 40 10 0 2;b0 40 10 4 3;w7;");
        due("year(1)", x.year(1), 50);
        nestsAre(x, 15, 11, 10, 14);
        due("told(9)", x.told(9), 3);
        // RAIN less than FAR: no YOUNG, none taken
        x = landOf("t1 1 1;b0 40 10 9 0;b0 40 10 9 3;w0;");
        due("year(1)", x.year(1), 20);
        // a CAT takes in a SHUT BARN, too, ahead of what is HOMELESS
        x = landOf("t1 1 1;b0 9 9 9 1;b0 20 0 9 0;w0;");
        x.open(0, false);
        due("year(1)", x.year(1), 6);
        nestsAre(x, 0, 6);
        due("told(9)", x.told(9), 3);
    }

    private static void yearOfHomelessOnes() {
        // BARN 0 has 10 + 9 YOUNG, 9 of them HOMELESS: BARN 1 is SHUT, 2 takes 4, 3 is of another COUNTY, 4 takes 3, 2 LOST
        SwallowCount x = landOf("t2 1 1;b0 10 10 0 0;b0 40 0 0 0;b0 5 1 9 2;b1 40 1 9 2;b0 3 0 9 2;w9;");
        x.open(1, false);
        due("year(1)", x.year(1), 20);
        nestsAre(x, 10, 0, 5, 2, 3);
        due("told(9)", x.told(9), 2);
        // all SHUT: all LOST, each YEAR no more
        x = landOf("t1 1 1;b0 10 10 0 0;b0 40 20 0 0;w9;");
        x.open(0, false);
        x.open(1, false);
        due("year(1)", x.year(1), 0);
        due("told(9)", x.told(9), 30);
        due("year(1)", x.year(1), 0);
        due("told(9)", x.told(9), 30);
        // HOMELESS ones of a later BARN go to a lesser one, and have no YOUNG there
        x = landOf("t1 1 1;b0 40 0 0 0;b0 10 10 0 0;w7;");
        x.open(1, false);
        due("year(1)", x.year(1), 10);
        nestsAre(x, 10, 0);
    }

    private static void yearOfMuchRain() {
        // 8: one more for an OPEN BARN with NESTS; those that came by (c) count, too; not above EAVES; not if SHUT or empty
        SwallowCount x = landOf("t2 1 1;b0 40 3 9 2;b0 5 5 9 2;b0 40 0 9 2;b0 40 0 9 2;b1 9 0 0 0;w8,9,7;");
        x.open(3, false);
        due("year(1)", x.year(1), 9);
        nestsAre(x, 4, 5, 0, 0, 0);
        due("year(1)", x.year(1), 10);
        due("year(1), RAIN 7", x.year(1), 10);
        x = landOf("t1 1 1;b0 40 0 9 0;b0 9 6 9 0;w8;");
        x.open(1, false);
        due("year(1)", x.year(1), 7);
        nestsAre(x, 7, 0);
    }

    private static void year() {
        yearOfKinds();
        yearOfHomelessOnes();
        yearOfMuchRain();
        SwallowCount x = landOf("t1 1 1;b0 9 9 9 1;w0;");
        x.ring(0, 8);
        due("year(1)", x.year(1), 6);
        due("RINGS no more than NESTS", x.barn(0, 5), 6);
        due("year(0)", x.year(0), OUTSIDE);
        due("year(100)", x.year(100), OUTSIDE);
        due("told(5)", x.told(5), 1);
        due("year(99)", x.year(99), 2);
        due("told(5)", x.told(5), 100);
        for (int k = 0; k < 89; k++) {
            x.year(99);
        }
        x.year(89);
        due("told(5)", x.told(5), 9000);
        due("year(99) at 9000", x.year(99), 2);
        due("told(5)", x.told(5), 9099);
        due("year(1) above", x.year(1), FULL);
        due("drift(1) above", x.drift(1), FULL);
        due("year(0) above", x.year(0), OUTSIDE);
        x.undo();
        due("year(1) at 9000 again", x.year(1), 2);
        due("year(1) at 9001", x.year(1), FULL);
        due("year(1) without BARNS", landOf("t1 1 1;").year(1), 0);
        due("year(0) of nothing", new SwallowCount().year(0), OUTSIDE);
    }

    private static void open() {
        SwallowCount x = landOf("t1 1 1;b0 9 9 9 0;b0 9 9 9 0;");
        due("open(1, true)", x.open(1, true), 1);
        due("open(1, false)", x.open(1, false), 1);
        due("told(7)", x.told(7), 2);
        due("open(1, false)", x.open(1, false), 0);
        due("open(1, true)", x.open(1, true), 0);
        due("told(7)", x.told(7), 0);
        due("open(2, true)", x.open(2, true), UNKNOWN);
        due("open(-1, true)", x.open(-1, true), UNKNOWN);
        due("told(14)", x.told(14), 4);
    }

    private static void move() {
        SwallowCount x = landOf("t2 1 1;b0 40 40 9 0;b1 40 30 9 0;b1 5 0 9 0;");
        x.ring(0, 38);
        due("move(0, 2, 2)", x.move(0, 2, 2), 2);
        due("RINGS stay", x.barn(0, 5), 38);
        due("move(0, 2, 3)", x.move(0, 2, 3), 5);
        due("RINGS no more than NESTS", x.barn(0, 5), 35);
        due("RINGS are not moved", x.barn(2, 5), 0);
        due("EAVES too few", x.move(0, 2, 1), NOT);
        due("not so many", x.move(2, 0, 6), NOT);
        due("EAVES too few by one", x.move(0, 1, 11), NOT);
        due("move(0, 1, 10)", x.move(0, 1, 10), 40);
        due("move(0, 1, 0)", x.move(0, 1, 0), OUTSIDE);
        due("move(0, 1, 41)", x.move(0, 1, 41), OUTSIDE);
        due("move(0, 0, 1)", x.move(0, 0, 1), UNKNOWN);
        due("move(0, 0, 0)", x.move(0, 0, 0), UNKNOWN);
        due("move(0, 3, 0)", x.move(0, 3, 0), UNKNOWN);
        due("move(-1, 0, 1)", x.move(-1, 0, 1), UNKNOWN);
        due("told(14)", x.told(14), 4);
        x.open(1, false);
        due("from a SHUT one", x.move(1, 0, 3), 28);
    }

    private static void mud() {
        SwallowCount x = landOf("t1 1 1;b0 9 9 9 0;b0 9 9 1 0;");
        due("mud(0, 4)", x.mud(0, 4), 5);
        due("mud(1, 9)", x.mud(1, 9), 0);
        due("mud(1, 1)", x.mud(1, 1), 0);
        due("mud(0, 0)", x.mud(0, 0), OUTSIDE);
        due("mud(0, 10)", x.mud(0, 10), OUTSIDE);
        due("mud(2, 10)", x.mud(2, 10), UNKNOWN);
        due("mud(-1, 1)", x.mud(-1, 1), UNKNOWN);
        due("barn(0, 3)", x.barn(0, 3), 5);
        due("told(14)", x.told(14), 3);
    }

    private static void ring() {
        SwallowCount x = landOf("t1 1 1;b0 40 40 9 0;b0 9 0 1 0;");
        due("ring(0, 40)", x.ring(0, 40), 40);
        due("ring(0, 1)", x.ring(0, 1), NOT);
        due("ring(1, 1)", x.ring(1, 1), NOT);
        due("ring(0, 0)", x.ring(0, 0), OUTSIDE);
        due("ring(0, 41)", x.ring(0, 41), OUTSIDE);
        due("ring(2, 41)", x.ring(2, 41), UNKNOWN);
        due("ring(-1, 1)", x.ring(-1, 1), UNKNOWN);
        due("told(10)", x.told(10), 40);
        x.undo();
        due("told(10)", x.told(10), 0);
        due("ring(0, 5)", x.ring(0, 5), 5);
        due("ring(0, 5)", x.ring(0, 5), 10);
    }

    private static void drift() {
        // from 0: THE SEED 12345 draws 0; then 1406932606, / 65536 = 21468: 8; then 654583775, 9988: 8
        SwallowCount x = landOf("t1 1 1;b0 40 10 0 0;w9;");
        due("drift(1)", x.drift(1), 10);
        due("seed", x.seed(12345), 12345);
        due("drift(1)", x.drift(1), 19);
        due("seed", x.seed(1406932606), 1406932606);
        due("drift(1)", x.drift(1), 35);
        due("seed", x.seed(0), 654583775);
        due("told(5)", x.told(5), 3);
        x.undo();
        x.undo();
        x.undo();
        due("drift(3)", x.drift(3), 35);
        due("seed", x.seed(2147483647), 654583775);
        x.undo();
        // 2147483647 times 1103515245 and 12345, left over by 2 to the 31, is 2147483648 - 1103515245 + 12345;
        // that / 65536 is 15929: RAIN 9, 10 + 9 + 1
        due("drift(1)", x.drift(1), 20);
        due("seed", x.seed(0), 1043980748);
        due("drift(0)", x.drift(0), OUTSIDE);
        due("drift(100)", x.drift(100), OUTSIDE);
        due("seed of refused ones", x.seed(5), 0);
        due("drift(100) of nothing", new SwallowCount().drift(100), OUTSIDE);
        x = landOf("t1 1 1;");
        due("drift(1) without BARNS", x.drift(1), 0);
        due("seed", x.seed(5), 12345);
    }

    private static void undo() {
        SwallowCount x = landOf("t1 1 1;b0 40 10 5 1;b0 40 10 5 0;w8;");
        x.ring(0, 9);
        x.move(0, 1, 3);
        x.mud(0, 2);
        x.open(1, false);
        x.year(2);
        x.seed(9);
        x.drift(2);
        int seed = x.seed(1);
        x.seed(seed);
        due("undo()", x.undo(), 5);
        due("THE SEED stays", x.seed(0), seed);
        due("told(5)", x.told(5), 2);
        due("undo()", x.undo(), 4);
        due("told(5)", x.told(5), 0);
        due("told(9)", x.told(9), 0);
        due("told(7)", x.told(7), 2);
        nestsAre(x, 7, 13);
        due("undo()", x.undo(), 3);
        due("told(7)", x.told(7), 0);
        due("undo()", x.undo(), 2);
        due("barn(0, 3)", x.barn(0, 3), 5);
        due("barn(0, 5)", x.barn(0, 5), 7);
        due("undo()", x.undo(), 1);
        due("barn(0, 5)", x.barn(0, 5), 9);
        nestsAre(x, 10, 10);
        due("undo()", x.undo(), 0);
        due("barn(0, 5)", x.barn(0, 5), 0);
        due("undo()", x.undo(), NOT);
        for (int k = 0; k < 25; k++) {
            x.move(k % 2, 1 - k % 2, 1);
        }
        due("told(14)", x.told(14), 20);
        for (int k = 19; k >= 0; k--) {
            due("undo()", x.undo(), k);
        }
        due("undo()", x.undo(), NOT);
        // the five oldest are lost: three there, two back
        nestsAre(x, 9, 11);
    }

    private static void undoOfTheOldest() {
        SwallowCount x = landOf("t1 1 1;b0 40 40 5 0;");
        for (int k = 0; k < 23; k++) {
            x.ring(0, 1);
        }
        for (int k = 0; k < 20; k++) {
            x.undo();
        }
        due("the three oldest stay done", x.told(10), 3);
        due("undo()", x.undo(), NOT);
        // what is refused, or only asks, can't be undone
        x.ring(0, 40);
        x.year(0);
        x.move(0, 0, 1);
        x.mud(0, 0);
        x.open(9, true);
        x.see(0, 1);
        x.count(0, 1, 0);
        due("told(14)", x.told(14), 0);
    }

    private static void count() {
        SwallowCount x = landOf("t2 3 4;b0 40 10 0 0;b1 40 5 9 0;w5,9;");
        due("count(0, 0, 0)", x.count(0, 0, 0), 10);
        due("count(0, 0, 1)", x.count(0, 0, 1), 3);
        due("count(0, 0, 2)", x.count(0, 0, 2), 2);
        due("count(0, 1, 0)", x.count(0, 1, 0), 15);
        due("count(0, 2, 0)", x.count(0, 2, 0), 29);
        due("count(0, 2, 1)", x.count(0, 2, 1), 9);
        due("count(0, 2, 2)", x.count(0, 2, 2), 7);
        due("count(1, 2, 0)", x.count(1, 2, 0), 6);
        due("count(0, 60, 0)", x.count(0, 60, 0), 40);
        due("nothing changes", x.told(8) + x.told(5) + x.told(14), 15);
        x.year(1);
        due("RAIN goes on from this year", x.count(0, 1, 0), 29);
        x.open(0, false);
        due("SHUT ones have SOULS", x.count(0, 0, 0), 15);
        due("none behind a YEAR", x.count(0, 1, 0), 0);
        due("count(0, 61, 0)", x.count(0, 61, 0), OUTSIDE);
        due("count(0, -1, 0)", x.count(0, -1, 0), OUTSIDE);
        due("count(0, 0, 3)", x.count(0, 0, 3), OUTSIDE);
        due("count(0, 0, -1)", x.count(0, 0, -1), OUTSIDE);
        due("count(2, 61, 0)", x.count(2, 61, 0), UNKNOWN);
        due("count(-1, 0, 0)", x.count(-1, 0, 0), UNKNOWN);
    }

    private static void leave() {
        // no YOUNG (RAIN 0): 24 NESTS are together, as many as OPEN EAVES (10, 10, 10) take
        SwallowCount x = landOf("t2 5 6;b1 9 9 9 0;b0 10 8 9 0;b0 10 8 9 0;b1 9 0 9 0;b0 10 8 9 0;w0;");
        due("all OPEN", x.leave(0, 4, 4), 22);
        due("two OPEN, the least SET", x.leave(0, 4, 3), 6);
        due("one OPEN", x.leave(0, 0, 1), 2);
        due("none OPEN", x.leave(0, 0, 0), 0);
        due("NONE", x.leave(0, 3, 1), NONE);
        due("NONE by SEATS", x.leave(0, 5, 99), NONE);
        x.open(1, false);
        x.open(0, false);
        due("SHUT ones may be OPEN", x.leave(0, 4, 4), 22);
        due("of the other COUNTY", x.leave(1, 1, 99), 9);
        due("who is SHUT stays", x.told(7), 3);
        due("nothing can be undone more", x.told(14), 2);
        due("without BARNS", landOf("t1 1 1;").leave(0, 0, 0), 0);
        due("without BARNS, a SEAT", landOf("t1 1 1;").leave(0, 1, 0), NONE);
        due("leave(0, -1, 0)", x.leave(0, -1, 0), OUTSIDE);
        due("leave(0, 100, 0)", x.leave(0, 100, 0), OUTSIDE);
        due("leave(0, 0, -1)", x.leave(0, 0, -1), OUTSIDE);
        due("leave(0, 0, 100)", x.leave(0, 0, 100), OUTSIDE);
        due("leave(0, 99, 99)", x.leave(0, 99, 99), NONE);
        due("leave(2, 100, 0)", x.leave(2, 100, 0), UNKNOWN);
        due("leave(-1, 0, 0)", x.leave(-1, 0, 0), UNKNOWN);
    }

    private static void counters() {
        SwallowCount x = landOf("t3 1 1;b0 9 0 0 0;b0 9 1 0 0;b0 9 2 0 0;b0 9 9 0 0;b1 9 1 0 0;");
        due("counters(0)", x.counters(0), 4);
        due("counters(1)", x.counters(1), 2);
        due("counters(2)", x.counters(2), 0);
        x.open(3, false);
        due("SHUT ones, too", x.counters(0), 4);
        due("counters(3)", x.counters(3), UNKNOWN);
        due("counters(-1)", x.counters(-1), UNKNOWN);
    }

    private static void game() {
        // COUNTY 0: 10 NESTS, S 1, RAIN 5: FAR 2 brings 13, 0 brings 15, 4 brings 11, 2 again 13.
        // COUNTY 1 the same: each deed is worth 2 SEATS less 1, so that both dig or smoke, whatever the other does
        SwallowCount x = landOf("t3 1 1;b0 40 10 2 0;b1 40 10 2 0;");
        due("game(0, 1, -1)", x.game(0, 1, -1), 4);
        due("game(0, 1, 0)", x.game(0, 1, 0), 11);
        due("game(0, 1, 1)", x.game(0, 1, 1), 12);
        due("game(0, 1, 2)", x.game(0, 1, 2), 21);
        due("game(0, 1, 3)", x.game(0, 1, 3), 22);
        due("game(0, 1, 4)", x.game(0, 1, 4), NONE);
        due("game(0, 1, -2)", x.game(0, 1, -2), NONE);
        // a COUNTY without BARNS has nothing but smoke, and the other one nothing but pools
        due("game(0, 2, -1)", x.game(0, 2, -1), 1);
        due("game(0, 2, 0)", x.game(0, 2, 0), 21);
        due("game(0, 2, 1)", x.game(0, 2, 1), NONE);
        due("game(2, 0, 0)", x.game(2, 0, 0), 12);
        due("game(2, 0, 1)", x.game(2, 0, 1), NONE);
        due("nothing changes", x.barn(0, 3) + x.told(14) + x.told(5), 2);
        due("game(0, 0, -1)", x.game(0, 0, -1), UNKNOWN);
        due("game(0, 3, -2)", x.game(0, 3, -2), UNKNOWN);
        due("game(-1, 0, 0)", x.game(-1, 0, 0), UNKNOWN);
    }

    private static void smokeComesBehindPools() {
        // SOULS of COUNTY 0, of RAIN 5: FAR 1 has 14, by pools (0) 15, by smoke (3) 12, by both (0, then 2) 13
        // S 2: 7, 7, 6, 6 SEATS: pools are worth nothing, smoke of COUNTY 1, that has no BARNS, 1 less 1
        SwallowCount x = landOf("t2 2 1;b0 40 10 1 0;");
        due("game(0, 1, -1)", x.game(0, 1, -1), 2);
        due("game(0, 1, 0)", x.game(0, 1, 0), 0);
        due("game(0, 1, 1)", x.game(0, 1, 1), 1);
        // S 1: smoke is worth 2 less 1; pools against it 1 less 1 (smoke first would leave FAR 1: 2 less 1)
        x = landOf("t2 1 1;b0 40 10 1 0;");
        due("game(0, 1, -1)", x.game(0, 1, -1), 2);
        due("game(0, 1, 0)", x.game(0, 1, 0), 1);
        due("game(0, 1, 1)", x.game(0, 1, 1), 21);
    }

    private static void leastMud() {
        // RAIN 5: 10 NESTS, FAR 3 and 4: 12 and 11 SOULS of S 6: 3 SEATS; each MUD one SOUL more: 24 is one more
        SwallowCount x = landOf("t2 6 1;b1 40 10 4 0;b0 40 10 3 0;b0 40 10 4 0;");
        due("leastMud(0, -1)", x.leastMud(0, -1), 1);
        due("less ahead", x.leastMud(0, 1), 0);
        due("the last BARN has it", x.leastMud(0, 2), 1);
        due("a BARN of another COUNTY", x.leastMud(0, 0), UNKNOWN);
        due("leastMud(1, -1)", x.leastMud(1, -1), 1);
        due("leastMud(1, 0)", x.leastMud(1, 0), 1);
        due("nothing changes", x.barn(2, 3) + x.told(14), 4);
        // S 7: 23 SOULS, 28 are a SEAT more: 5 MUD, 4 at most for the last, then one for the first
        x = landOf("t1 7 1;b0 40 10 3 0;b0 40 10 4 0;");
        due("leastMud(0, -1)", x.leastMud(0, -1), 5);
        due("leastMud(0, 0)", x.leastMud(0, 0), 1);
        due("leastMud(0, 1)", x.leastMud(0, 1), 4);
        x = landOf("t1 29 1;b0 40 10 3 0;b0 40 10 4 0;");
        due("29 SOULS would need 6", x.leastMud(0, -1), NONE);
        due("NONE for a BARN", x.leastMud(0, 1), NONE);
        // more than one SEAT at once is a SEAT more, too
        x = landOf("t1 1 1;b0 40 30 4 0;");
        due("three SEATS more", x.leastMud(0, -1), 1);
        // GLAZED, SHUT, far beyond RAIN: none
        x = landOf("t1 1 1;b0 40 30 4 2;b0 40 30 4 0;b0 40 30 9 0;w3;");
        x.open(1, false);
        due("no MUD serves", x.leastMud(0, -1), NONE);
        due("leastMud(1, -1)", x.leastMud(1, -1), UNKNOWN);
        due("leastMud(-1, -1)", x.leastMud(-1, -1), UNKNOWN);
        due("leastMud(0, 3)", x.leastMud(0, 3), UNKNOWN);
        due("leastMud(0, -2)", x.leastMud(0, -2), UNKNOWN);
        due("without BARNS", landOf("t1 1 1;").leastMud(0, -1), NONE);
    }

    private static void votes() {
        SwallowCount x = landOf("t3 1 1;b0 9 9 9 0;b1 9 9 9 0;b0 9 9 9 0;");
        x.ring(0, 2);
        x.ring(1, 4);
        x.ring(2, 3);
        due("votes(0)", x.votes(0), 5);
        due("votes(1)", x.votes(1), 4);
        due("votes(2)", x.votes(2), 0);
        due("votes(3)", x.votes(3), UNKNOWN);
        due("votes(-1)", x.votes(-1), UNKNOWN);
    }

    private static void elected() {
        SwallowCount x = landOf("t3 1 1;b1 9 9 9 0;b2 9 9 9 0;");
        due("no VOTES: the least", x.elected(), 0);
        x.ring(1, 2);
        due("elected()", x.elected(), 2);
        x.ring(0, 2);
        due("of like ones the least", x.elected(), 1);
        due("no COUNTIES", new SwallowCount().elected(), NONE);
    }

    private static void spring() {
        SwallowCount x = new SwallowCount();
        due("spring(0, 50)", x.spring(0, 50), 1000000000);
        due("spring(1, 0)", x.spring(1, 0), 1000000000);
        due("spring(30, 0)", x.spring(30, 0), 1000000000);
        due("spring(1, 100)", x.spring(1, 100), 0);
        due("spring(2, 1)", x.spring(2, 1), 980100000);
        // 10 ^ 9 halved: 500000000 .. 1953125, 976562, 488281, 244140, 122070, 61035, 30517
        due("spring(15, 50)", x.spring(15, 50), 30517);
        due("spring(4, 99)", x.spring(4, 99), 10);
        due("spring(5, 99)", x.spring(5, 99), 0);
        // cut each time: cut once it would be 941480149
        due("spring(6, 1)", x.spring(6, 1), 941480148);
        due("spring(10, 10)", x.spring(10, 10), 348678440);
        due("spring(11, 10)", x.spring(11, 10), 313810596);
        due("spring(-1, 0)", x.spring(-1, 0), OUTSIDE);
        due("spring(31, 0)", x.spring(31, 0), OUTSIDE);
        due("spring(0, -1)", x.spring(0, -1), OUTSIDE);
        due("spring(0, 101)", x.spring(0, 101), OUTSIDE);
    }

    private static void see() {
        SwallowCount x = landOf("t1 1 1;b0 9 9 9 0;");
        due("see(0, -1)", x.see(0, -1), OUTSIDE);
        due("see(0, 41)", x.see(0, 41), OUTSIDE);
        due("see(1, 41)", x.see(1, 41), UNKNOWN);
        due("see(-1, 0)", x.see(-1, 0), UNKNOWN);
        for (int k = 1; k <= 8; k++) {
            due("see", x.see(0, k == 1 ? 0 : 40), k);
        }
        due("see(0, 0)", x.see(0, 0), FULL);
        due("see(0, 41)", x.see(0, 41), OUTSIDE);
        due("told(11)", x.told(11), 8);
        due("told(14)", x.told(14), 0);
    }

    private static void moved() {
        // RAIN 0: what is moved stays; 3 NESTS, 2 free; the third is full
        SwallowCount x = landOf("t1 1 1;b0 9 3 9 0;b0 9 7 9 0;b0 4 4 9 0;w0;");
        // 0 to 1: 1, 2; 1 to 0: 1 .. 5; 2 to 0: 1 .. 4; 2 to 1: 1, 2
        int[] ways = {11, 12, 101, 102, 103, 104, 105, 201, 202, 203, 204, 211, 212};
        due("moved(-1)", x.moved(-1), ways.length);
        for (int i = 0; i < ways.length; i++) {
            due("moved(" + i + ")", x.moved(i), ways[i]);
        }
        due("moved(13)", x.moved(13), NONE);
        due("moved(-2)", x.moved(-2), NONE);
        x.see(0, 5);
        due("moved(-1)", x.moved(-1), 2);
        due("moved(0)", x.moved(0), 102);
        due("moved(1)", x.moved(1), 202);
        x.see(1, 7);
        due("moved(-1)", x.moved(-1), 1);
        due("moved(0)", x.moved(0), 202);
        due("moved(1)", x.moved(1), NONE);
        x.move(0, 1, 1);
        due("from when it is asked", x.moved(-1), 0);
        x.undo();
        x.see(1, 8);
        due("all that is SEEN", x.moved(-1), 0);
        due("nothing changes", x.told(8) + x.told(5), 14);
    }

    private static void movedByRain() {
        // RAIN 9, then 0: BARN 0 would have 10 + 9, BARN 1 10; 18 of BARN 0 are told by 1 moved away (9 + 8 + 1)
        SwallowCount x = landOf("t2 1 1;b0 40 10 0 0;b1 40 10 9 2;w9,0;");
        x.see(0, 18);
        due("moved(-1)", x.moved(-1), 1);
        due("moved(0)", x.moved(0), 11);
        x.year(1);
        // 20 NESTS now, RAIN 0: two moved away
        due("RAIN of the next YEAR", x.moved(0), 12);
        x.open(0, false);
        due("a SHUT BARN has none", x.moved(-1), 0);
    }

    private static void rough() {
        SwallowCount x = landOf("t1 1 1;b0 9 9 9 0;b0 9 9 9 0;");
        due("rough(4, 0)", x.rough(4, 0), UNKNOWN);
        due("rough(7, 321)", x.rough(7, 321), UNKNOWN);
        due("rough(-1, 0)", x.rough(-1, 0), UNKNOWN);
        due("rough(MIN, 0)", x.rough(Integer.MIN_VALUE, 0), UNKNOWN);
        due("rough(3, -1)", x.rough(3, -1), OUTSIDE);
        due("rough(3, 321)", x.rough(3, 321), OUTSIDE);
        for (int k = 1; k <= 8; k++) {
            due("rough", x.rough(k == 1 ? 0 : 3, k == 2 ? 320 : 0), k);
        }
        due("rough(3, 0)", x.rough(3, 0), FULL);
        due("rough(3, 321)", x.rough(3, 321), OUTSIDE);
        due("rough(4, 0)", x.rough(4, 0), UNKNOWN);
        due("told(12)", x.told(12), 8);
    }

    private static void span() {
        SwallowCount x = landOf("t1 1 1;b0 10 1 9 0;b0 20 1 9 0;b0 30 1 9 0;b0 0 0 9 0;");
        due("span(0, 0)", x.span(0, 0), 0);
        due("span(0, 1)", x.span(0, 1), 10);
        due("no EAVES", x.span(3, 1), 0);
        x.rough(0, 9);
        due("a count of nobody", x.span(0, 1), 10);
        x.rough(7, 55);
        due("span(0, 0)", x.span(0, 0), 5);
        due("span(1, 0)", x.span(1, 0), 15);
        due("span(2, 0)", x.span(2, 0), 25);
        due("span(2, 1)", x.span(2, 1), 30);
        x.rough(3, 12);
        due("of two the narrower", x.span(0, 0), 5);
        due("of two the narrower", x.span(0, 1), 10);
        due("none fits", x.span(1, 0), NONE);
        due("none fits", x.span(1, 1), NONE);
        due("counts are not taken together", x.span(2, 0), 25);
        x.rough(1, 7);
        due("span(0, 0)", x.span(0, 0), 7);
        due("span(0, 1)", x.span(0, 1), 7);
        due("span(0, 2)", x.span(0, 2), OUTSIDE);
        due("span(0, -1)", x.span(0, -1), OUTSIDE);
        due("span(4, 2)", x.span(4, 2), UNKNOWN);
        due("span(-1, 0)", x.span(-1, 0), UNKNOWN);
        due("NESTS of now don't matter", x.barn(0, 2), 1);
    }

    private static void uncounted() {
        SwallowCount x = landOf("t1 1 1;b0 10 1 9 0;b0 20 1 9 0;b0 0 0 9 0;");
        due("uncounted()", x.uncounted(), 3);
        x.rough(2, 20);
        due("uncounted()", x.uncounted(), 1);
        x.rough(3, 0);
        due("none fits", x.uncounted(), 2);
        x.rough(4, 1);
        due("none fits", x.uncounted(), 6);
    }

    private static void write() {
        SwallowCount x = landOf("t2 1 1;b0 9 9 9 0;");
        due("write(0, -1)", x.write(0, -1), OUTSIDE);
        due("write(0, 321)", x.write(0, 321), OUTSIDE);
        due("write(2, 321)", x.write(2, 321), UNKNOWN);
        due("write(-1, 0)", x.write(-1, 0), UNKNOWN);
        for (int k = 1; k <= 15; k++) {
            due("write", x.write(k % 2, k == 1 ? 320 : 0), k);
        }
        due("write(0, 0)", x.write(0, 0), FULL);
        due("write(0, 321)", x.write(0, 321), OUTSIDE);
        due("write(2, 0)", x.write(2, 0), UNKNOWN);
        due("told(13)", x.told(13), 15);
    }

    private static void tear() {
        SwallowCount x = landOf("t1 1 1;b0 9 9 9 0;");
        due("tear()", x.tear(), 0);
        x.see(0, 1);
        x.rough(1, 1);
        x.rough(1, 2);
        x.write(0, 1);
        x.write(0, 1);
        x.write(0, 1);
        due("tear()", x.tear(), 6);
        due("told(11)", x.told(11), 0);
        due("told(12)", x.told(12), 0);
        due("told(13)", x.told(13), 0);
        due("judge()", x.judge(), NONE);
        due("span(0, 1)", x.span(0, 1), 9);
        due("tear()", x.tear(), 0);
        due("see", x.see(0, 1), 1);
    }

    private static void judge() {
        SwallowCount x = landOf("t3 1 1;b0 9 4 9 0;b1 9 5 9 0;b0 9 2 9 0;");
        due("judge()", x.judge(), NONE);
        x.write(0, 6);
        x.write(2, 0);
        x.write(1, 5);
        due("judge()", x.judge(), NONE);
        x.write(1, 4);
        x.write(0, 0);
        due("judge()", x.judge(), 3);
        x.move(0, 1, 1);
        due("as it is now", x.judge(), 0);
        x.undo();
        x.open(1, false);
        due("SHUT ones have SOULS", x.judge(), 3);
    }

    private static void seed() {
        SwallowCount x = new SwallowCount();
        due("seed(5)", x.seed(5), 0);
        due("seed(-1)", x.seed(-1), OUTSIDE);
        due("seed(MIN)", x.seed(Integer.MIN_VALUE), OUTSIDE);
        due("seed(MAX)", x.seed(Integer.MAX_VALUE), 5);
        due("seed(0)", x.seed(0), Integer.MAX_VALUE);
    }

    private static void images() {
        SwallowCount x = landOf("t1 1 1;b0 40 10 5 1;b0 40 10 5 0;w8;");
        x.year(1);
        x.ring(0, 3);
        x.mud(0, 2);
        x.open(1, false);
        x.seed(44);
        int[] told = new int[15];
        for (int what = 0; what < told.length; what++) {
            told[what] = x.told(what);
        }
        due("keep(1)", x.keep(1), 1);
        due("undo()", x.undo(), NOT);
        x.see(0, 1);
        x.drift(9);
        x.mud(0, 1);
        x.open(1, true);
        due("goBack(0)", x.goBack(0), NOT);
        due("a refused one leaves what can be undone", x.told(14), 3);
        due("keep(2)", x.keep(2), UNKNOWN);
        due("keep(-1)", x.keep(-1), UNKNOWN);
        due("goBack(2)", x.goBack(2), UNKNOWN);
        due("goBack(-1)", x.goBack(-1), UNKNOWN);
        due("told(14)", x.told(14), 3);
        due("goBack(1)", x.goBack(1), 1);
        for (int what = 0; what < 11; what++) {
            due("told(" + what + ")", x.told(what), told[what]);
        }
        due("what was SEEN stays", x.told(11), 1);
        due("undo()", x.undo(), NOT);
        due("barn(0, 3)", x.barn(0, 3), 3);
        due("THE SEED", x.seed(45), 44);
        x.year(3);
        due("keep(0)", x.keep(0), 1);
        x.year(3);
        due("goBack(1) again", x.goBack(1), 1);
        due("told(5)", x.told(5), 1);
        due("goBack(0)", x.goBack(0), 1);
        due("told(5)", x.told(5), 4);
        due("THE SEED", x.seed(0), 45);
        x.year(1);
        due("keep(0) anew", x.keep(0), 1);
        x.year(1);
        x.goBack(0);
        due("told(5)", x.told(5), 5);
    }

    private static void group(int number) {
        promise = number;
        switch (number) {
            case 1: aNewObject(); break;
            case 3: aLandTakesThePlaceOfAnother(); break;
            case 5: told(); break;
            case 6: barn(); break;
            case 7: year(); break;
            case 8: open(); break;
            case 9: move(); break;
            case 10: mud(); break;
            case 11: ring(); break;
            case 12: drift(); break;
            case 13: undo(); undoOfTheOldest(); break;
            case 14: count(); break;
            case 15: leave(); break;
            case 16: counters(); break;
            case 17: game(); smokeComesBehindPools(); break;
            case 18: leastMud(); break;
            case 19: votes(); break;
            case 20: elected(); break;
            case 21: spring(); break;
            case 22: see(); break;
            case 23: moved(); movedByRain(); break;
            case 24: rough(); break;
            case 25: span(); break;
            case 26: uncounted(); break;
            case 27: write(); break;
            case 28: tear(); break;
            case 29: judge(); break;
            case 30: seed(); break;
            case 31: case 32: images(); break;
            default: break; // 2 and 4 have a test of their own: FaultRuns
        }
    }

    public static void main(String[] args) {
        for (int number = 1; number <= 32; number++) {
            group(number);
        }
        System.out.println(wrong == 0 ? "all answers are as due" : wrong + " answers are not as due");
        if (wrong != 0) {
            System.exit(1);
        }
    }
}
