/** One group of calls for each promise; the answers are worked out by hand from the document. */
public final class PromiseRuns {
    private static final int NONE = Due.NONE, UNKNOWN = Due.UNKNOWN, OUTSIDE = Due.OUTSIDE, NOT = Due.NOT, FULL = Due.FULL;

    private static void aNewObject() {
        SwallowCount x = new SwallowCount();
        for (int what = 0; what <= 14; what++) {
            Due.is("told(" + what + ")", x.told(what), what == 6 ? 5 : 0);
        }
        Due.is("fault()", x.fault(), NONE);
        Due.is("barn(0, 0)", x.barn(0, 0), UNKNOWN);
        Due.is("open(0, true)", x.open(0, true), UNKNOWN);
        Due.is("move(0, 1, 1)", x.move(0, 1, 1), UNKNOWN);
        Due.is("mud(0, 1)", x.mud(0, 1), UNKNOWN);
        Due.is("ring(0, 1)", x.ring(0, 1), UNKNOWN);
        Due.is("year(1)", x.year(1), NOT);
        Due.is("drift(1)", x.drift(1), NOT);
        Due.is("undo()", x.undo(), NOT);
        Due.is("count(0, 0, 0)", x.count(0, 0, 0), UNKNOWN);
        Due.is("leave(0, 0, 0)", x.leave(0, 0, 0), UNKNOWN);
        Due.is("counters(0)", x.counters(0), UNKNOWN);
        Due.is("game(0, 1, -1)", x.game(0, 1, -1), UNKNOWN);
        Due.is("leastMud(0, -1)", x.leastMud(0, -1), UNKNOWN);
        Due.is("votes(0)", x.votes(0), UNKNOWN);
        Due.is("elected()", x.elected(), NONE);
        Due.is("see(0, 0)", x.see(0, 0), UNKNOWN);
        Due.is("moved(-1)", x.moved(-1), 0);
        Due.is("moved(0)", x.moved(0), NONE);
        Due.is("rough(1, 0)", x.rough(1, 0), UNKNOWN);
        Due.is("rough(0, 0)", x.rough(0, 0), 1);
        Due.is("span(0, 0)", x.span(0, 0), UNKNOWN);
        Due.is("uncounted()", x.uncounted(), 0);
        Due.is("write(0, 0)", x.write(0, 0), UNKNOWN);
        Due.is("tear()", x.tear(), 1);
        Due.is("judge()", x.judge(), NONE);
        Due.is("goBack(0)", x.goBack(0), NOT);
        Due.is("keep(0)", x.keep(0), 1);
        Due.is("goBack(0)", x.goBack(0), 1);
    }

    private static void aLandTakesThePlaceOfAnother() {
        SwallowCount x = Due.landOf("t2 2 3;b0 9 5 1 0;b1 9 5 1 0;w9,1;");
        x.seed(77);
        x.year(2);
        x.ring(0, 2);
        x.keep(0);
        x.keep(1);
        x.open(1, false);
        x.see(0, 1);
        x.rough(1, 1);
        x.write(0, 1);
        Due.landIn(x, "t1 4 5;b0 3 2 7 2;");
        int[] told = {1, 4, 5, 1, 0, 0, 5, 0, 2, 0, 0, 0, 0, 0, 0};
        for (int what = 0; what < told.length; what++) {
            Due.is("told(" + what + ")", x.told(what), told[what]);
        }
        int[] barn = {0, 3, 2, 7, 2, 0, 0};
        for (int what = 0; what < barn.length; what++) {
            Due.is("barn(0, " + what + ")", x.barn(0, what), barn[what]);
        }
        Due.is("barn(1, 0)", x.barn(1, 0), UNKNOWN);
        Due.is("undo()", x.undo(), NOT);
        Due.is("goBack(0)", x.goBack(0), NOT);
        Due.is("goBack(1)", x.goBack(1), NOT);
        Due.is("seed(0)", x.seed(0), 77);
        Due.is("land()", x.land(), 0);
        Due.is("told(0)", x.told(0), 0);
        Due.is("told(3)", x.told(3), 0);
        Due.is("told(8)", x.told(8), 0);
        Due.is("year(1)", x.year(1), NOT);
    }

    private static void told() {
        SwallowCount x = Due.landOf("t2 3 4;b0 9 5 9 0;b1 9 6 9 1;w6,7;");
        x.feed('t');
        Due.is("told(4)", x.told(4), 1);
        x.year(1);
        x.open(1, false);
        x.ring(0, 3);
        x.ring(1, 1);
        x.see(0, 0);
        x.see(1, 0);
        x.rough(3, 0);
        x.write(0, 1);
        x.write(0, 1);
        x.write(0, 1);
        int[] want = {2, 3, 4, 2, 1, 1, 7, 2, 9, 2, 4, 2, 1, 3, 4};
        for (int what = 0; what < want.length; what++) {
            Due.is("told(" + what + ")", x.told(what), want[what]);
        }
        Due.is("told(-1)", x.told(-1), OUTSIDE);
        Due.is("told(15)", x.told(15), OUTSIDE);
        x.year(1);
        Due.is("told(6) starts over", x.told(6), 6);
    }

    private static void barn() {
        SwallowCount x = Due.landOf("t2 3 4;b0 9 5 8 0;b1 11 6 7 3;");
        x.ring(1, 4);
        x.open(1, false);
        int[] want = {1, 11, 6, 7, 3, 4, 1};
        for (int what = 0; what < want.length; what++) {
            Due.is("barn(1, " + what + ")", x.barn(1, what), want[what]);
        }
        Due.is("barn(0, 6)", x.barn(0, 6), 0);
        Due.is("barn(0, -1)", x.barn(0, -1), OUTSIDE);
        Due.is("barn(0, 7)", x.barn(0, 7), OUTSIDE);
        Due.is("barn(-1, 0)", x.barn(-1, 0), UNKNOWN);
        Due.is("barn(2, 7)", x.barn(2, 7), UNKNOWN);
    }

    private static void yearOfKinds() {
        // RAIN 7: plain 10 + 10*5/10; CAT 10 - 3 + 7*7/10; GLAZED none; MILL 10 + 10*3/10 + 3/2
        SwallowCount x = Due.landOf("t1 1 1;b0 40 10 2 0;b0 40 10 0 1;b0 40 10 0 2;b0 40 10 4 3;w7;");
        Due.is("year(1)", x.year(1), 50);
        Due.nests(x, 15, 11, 10, 14);
        Due.is("told(9)", x.told(9), 3);
        // RAIN less than FAR: no YOUNG, none taken
        x = Due.landOf("t1 1 1;b0 40 10 9 0;b0 40 10 9 3;w0;");
        Due.is("year(1)", x.year(1), 20);
        // a CAT takes in a SHUT BARN, too, ahead of what is HOMELESS
        x = Due.landOf("t1 1 1;b0 9 9 9 1;b0 20 0 9 0;w0;");
        x.open(0, false);
        Due.is("year(1)", x.year(1), 6);
        Due.nests(x, 0, 6);
        Due.is("told(9)", x.told(9), 3);
    }

    private static void yearOfHomelessOnes() {
        // BARN 0 has 10 + 9 YOUNG, 9 of them HOMELESS: BARN 1 is SHUT, 2 takes 4, 3 is of another COUNTY, 4 takes 3, 2 LOST
        SwallowCount x = Due.landOf("t2 1 1;b0 10 10 0 0;b0 40 0 0 0;b0 5 1 9 2;b1 40 1 9 2;b0 3 0 9 2;w9;");
        x.open(1, false);
        Due.is("year(1)", x.year(1), 20);
        Due.nests(x, 10, 0, 5, 2, 3);
        Due.is("told(9)", x.told(9), 2);
        // all SHUT: all LOST, each YEAR no more
        x = Due.landOf("t1 1 1;b0 10 10 0 0;b0 40 20 0 0;w9;");
        x.open(0, false);
        x.open(1, false);
        Due.is("year(1)", x.year(1), 0);
        Due.is("told(9)", x.told(9), 30);
        Due.is("year(1)", x.year(1), 0);
        Due.is("told(9)", x.told(9), 30);
        // HOMELESS ones of a later BARN go to a lesser one, and have no YOUNG there
        x = Due.landOf("t1 1 1;b0 40 0 0 0;b0 10 10 0 0;w7;");
        x.open(1, false);
        Due.is("year(1)", x.year(1), 10);
        Due.nests(x, 10, 0);
    }

    private static void yearOfMuchRain() {
        // 8: one more for an OPEN BARN with NESTS; those that came by (c) count, too; not above EAVES; not if SHUT or empty
        SwallowCount x = Due.landOf("t2 1 1;b0 40 3 9 2;b0 5 5 9 2;b0 40 0 9 2;b0 40 0 9 2;b1 9 0 0 0;w8,9,7;");
        x.open(3, false);
        Due.is("year(1)", x.year(1), 9);
        Due.nests(x, 4, 5, 0, 0, 0);
        Due.is("year(1)", x.year(1), 10);
        Due.is("year(1), RAIN 7", x.year(1), 10);
        x = Due.landOf("t1 1 1;b0 40 0 9 0;b0 9 6 9 0;w8;");
        x.open(1, false);
        Due.is("year(1)", x.year(1), 7);
        Due.nests(x, 7, 0);
    }

    private static void year() {
        yearOfKinds();
        yearOfHomelessOnes();
        yearOfMuchRain();
        SwallowCount x = Due.landOf("t1 1 1;b0 9 9 9 1;w0;");
        x.ring(0, 8);
        Due.is("year(1)", x.year(1), 6);
        Due.is("RINGS no more than NESTS", x.barn(0, 5), 6);
        Due.is("year(0)", x.year(0), OUTSIDE);
        Due.is("year(100)", x.year(100), OUTSIDE);
        Due.is("told(5)", x.told(5), 1);
        Due.is("year(99)", x.year(99), 2);
        Due.is("told(5)", x.told(5), 100);
        for (int k = 0; k < 89; k++) {
            x.year(99);
        }
        x.year(89);
        Due.is("told(5)", x.told(5), 9000);
        Due.is("year(99) at 9000", x.year(99), 2);
        Due.is("told(5)", x.told(5), 9099);
        Due.is("year(1) above", x.year(1), FULL);
        Due.is("drift(1) above", x.drift(1), FULL);
        Due.is("year(0) above", x.year(0), OUTSIDE);
        x.undo();
        Due.is("year(1) at 9000 again", x.year(1), 2);
        Due.is("year(1) at 9001", x.year(1), FULL);
        Due.is("year(1) without BARNS", Due.landOf("t1 1 1;").year(1), 0);
        Due.is("year(0) of nothing", new SwallowCount().year(0), OUTSIDE);
    }

    private static void open() {
        SwallowCount x = Due.landOf("t1 1 1;b0 9 9 9 0;b0 9 9 9 0;");
        Due.is("open(1, true)", x.open(1, true), 1);
        Due.is("open(1, false)", x.open(1, false), 1);
        Due.is("told(7)", x.told(7), 2);
        Due.is("open(1, false)", x.open(1, false), 0);
        Due.is("open(1, true)", x.open(1, true), 0);
        Due.is("told(7)", x.told(7), 0);
        Due.is("open(2, true)", x.open(2, true), UNKNOWN);
        Due.is("open(-1, true)", x.open(-1, true), UNKNOWN);
        Due.is("told(14)", x.told(14), 4);
    }

    private static void move() {
        SwallowCount x = Due.landOf("t2 1 1;b0 40 40 9 0;b1 40 30 9 0;b1 5 0 9 0;");
        x.ring(0, 38);
        Due.is("move(0, 2, 2)", x.move(0, 2, 2), 2);
        Due.is("RINGS stay", x.barn(0, 5), 38);
        Due.is("move(0, 2, 3)", x.move(0, 2, 3), 5);
        Due.is("RINGS no more than NESTS", x.barn(0, 5), 35);
        Due.is("RINGS are not moved", x.barn(2, 5), 0);
        Due.is("EAVES too few", x.move(0, 2, 1), NOT);
        Due.is("not so many", x.move(2, 0, 6), NOT);
        Due.is("EAVES too few by one", x.move(0, 1, 11), NOT);
        Due.is("move(0, 1, 10)", x.move(0, 1, 10), 40);
        Due.is("move(0, 1, 0)", x.move(0, 1, 0), OUTSIDE);
        Due.is("move(0, 1, 41)", x.move(0, 1, 41), OUTSIDE);
        Due.is("move(0, 0, 1)", x.move(0, 0, 1), UNKNOWN);
        Due.is("move(0, 0, 0)", x.move(0, 0, 0), UNKNOWN);
        Due.is("move(0, 3, 0)", x.move(0, 3, 0), UNKNOWN);
        Due.is("move(-1, 0, 1)", x.move(-1, 0, 1), UNKNOWN);
        Due.is("told(14)", x.told(14), 4);
        x.open(1, false);
        Due.is("from a SHUT one", x.move(1, 0, 3), 28);
    }

    private static void mud() {
        SwallowCount x = Due.landOf("t1 1 1;b0 9 9 9 0;b0 9 9 1 0;");
        Due.is("mud(0, 4)", x.mud(0, 4), 5);
        Due.is("mud(1, 9)", x.mud(1, 9), 0);
        Due.is("mud(1, 1)", x.mud(1, 1), 0);
        Due.is("mud(0, 0)", x.mud(0, 0), OUTSIDE);
        Due.is("mud(0, 10)", x.mud(0, 10), OUTSIDE);
        Due.is("mud(2, 10)", x.mud(2, 10), UNKNOWN);
        Due.is("mud(-1, 1)", x.mud(-1, 1), UNKNOWN);
        Due.is("barn(0, 3)", x.barn(0, 3), 5);
        Due.is("told(14)", x.told(14), 3);
    }

    private static void ring() {
        SwallowCount x = Due.landOf("t1 1 1;b0 40 40 9 0;b0 9 0 1 0;");
        Due.is("ring(0, 40)", x.ring(0, 40), 40);
        Due.is("ring(0, 1)", x.ring(0, 1), NOT);
        Due.is("ring(1, 1)", x.ring(1, 1), NOT);
        Due.is("ring(0, 0)", x.ring(0, 0), OUTSIDE);
        Due.is("ring(0, 41)", x.ring(0, 41), OUTSIDE);
        Due.is("ring(2, 41)", x.ring(2, 41), UNKNOWN);
        Due.is("ring(-1, 1)", x.ring(-1, 1), UNKNOWN);
        Due.is("told(10)", x.told(10), 40);
        x.undo();
        Due.is("told(10)", x.told(10), 0);
        Due.is("ring(0, 5)", x.ring(0, 5), 5);
        Due.is("ring(0, 5)", x.ring(0, 5), 10);
    }

    private static void drift() {
        // from 0: THE SEED 12345 draws 0; then 1406932606, / 65536 = 21468: 8; then 654583775, 9988: 8
        SwallowCount x = Due.landOf("t1 1 1;b0 40 10 0 0;w9;");
        Due.is("drift(1)", x.drift(1), 10);
        Due.is("seed", x.seed(12345), 12345);
        Due.is("drift(1)", x.drift(1), 19);
        Due.is("seed", x.seed(1406932606), 1406932606);
        Due.is("drift(1)", x.drift(1), 35);
        Due.is("seed", x.seed(0), 654583775);
        Due.is("told(5)", x.told(5), 3);
        x.undo();
        x.undo();
        x.undo();
        Due.is("drift(3)", x.drift(3), 35);
        Due.is("seed", x.seed(2147483647), 654583775);
        x.undo();
        // 2147483647 times 1103515245 and 12345, left over by 2 to the 31, is 2147483648 - 1103515245 + 12345;
        // that / 65536 is 15929: RAIN 9, 10 + 9 + 1
        Due.is("drift(1)", x.drift(1), 20);
        Due.is("seed", x.seed(0), 1043980748);
        Due.is("drift(0)", x.drift(0), OUTSIDE);
        Due.is("drift(100)", x.drift(100), OUTSIDE);
        Due.is("seed of refused ones", x.seed(5), 0);
        Due.is("drift(100) of nothing", new SwallowCount().drift(100), OUTSIDE);
        x = Due.landOf("t1 1 1;");
        Due.is("drift(1) without BARNS", x.drift(1), 0);
        Due.is("seed", x.seed(5), 12345);
    }

    private static void undo() {
        SwallowCount x = Due.landOf("t1 1 1;b0 40 10 5 1;b0 40 10 5 0;w8;");
        x.ring(0, 9);
        x.move(0, 1, 3);
        x.mud(0, 2);
        x.open(1, false);
        x.year(2);
        x.seed(9);
        x.drift(2);
        int seed = x.seed(1);
        x.seed(seed);
        Due.is("undo()", x.undo(), 5);
        Due.is("THE SEED stays", x.seed(0), seed);
        Due.is("told(5)", x.told(5), 2);
        Due.is("undo()", x.undo(), 4);
        Due.is("told(5)", x.told(5), 0);
        Due.is("told(9)", x.told(9), 0);
        Due.is("told(7)", x.told(7), 2);
        Due.nests(x, 7, 13);
        Due.is("undo()", x.undo(), 3);
        Due.is("told(7)", x.told(7), 0);
        Due.is("undo()", x.undo(), 2);
        Due.is("barn(0, 3)", x.barn(0, 3), 5);
        Due.is("barn(0, 5)", x.barn(0, 5), 7);
        Due.is("undo()", x.undo(), 1);
        Due.is("barn(0, 5)", x.barn(0, 5), 9);
        Due.nests(x, 10, 10);
        Due.is("undo()", x.undo(), 0);
        Due.is("barn(0, 5)", x.barn(0, 5), 0);
        Due.is("undo()", x.undo(), NOT);
        for (int k = 0; k < 25; k++) {
            x.move(k % 2, 1 - k % 2, 1);
        }
        Due.is("told(14)", x.told(14), 20);
        for (int k = 19; k >= 0; k--) {
            Due.is("undo()", x.undo(), k);
        }
        Due.is("undo()", x.undo(), NOT);
        // the five oldest are lost: three there, two back
        Due.nests(x, 9, 11);
    }

    private static void undoOfTheOldest() {
        SwallowCount x = Due.landOf("t1 1 1;b0 40 40 5 0;");
        for (int k = 0; k < 23; k++) {
            x.ring(0, 1);
        }
        for (int k = 0; k < 20; k++) {
            x.undo();
        }
        Due.is("the three oldest stay done", x.told(10), 3);
        Due.is("undo()", x.undo(), NOT);
        // what is refused, or only asks, can't be undone
        x.ring(0, 40);
        x.year(0);
        x.move(0, 0, 1);
        x.mud(0, 0);
        x.open(9, true);
        x.see(0, 1);
        x.count(0, 1, 0);
        Due.is("told(14)", x.told(14), 0);
    }

    private static void count() {
        SwallowCount x = Due.landOf("t2 3 4;b0 40 10 0 0;b1 40 5 9 0;w5,9;");
        Due.is("count(0, 0, 0)", x.count(0, 0, 0), 10);
        Due.is("count(0, 0, 1)", x.count(0, 0, 1), 3);
        Due.is("count(0, 0, 2)", x.count(0, 0, 2), 2);
        Due.is("count(0, 1, 0)", x.count(0, 1, 0), 15);
        Due.is("count(0, 2, 0)", x.count(0, 2, 0), 29);
        Due.is("count(0, 2, 1)", x.count(0, 2, 1), 9);
        Due.is("count(0, 2, 2)", x.count(0, 2, 2), 7);
        Due.is("count(1, 2, 0)", x.count(1, 2, 0), 6);
        Due.is("count(0, 60, 0)", x.count(0, 60, 0), 40);
        Due.is("nothing changes", x.told(8) + x.told(5) + x.told(14), 15);
        x.year(1);
        Due.is("RAIN goes on from this year", x.count(0, 1, 0), 29);
        x.open(0, false);
        Due.is("SHUT ones have SOULS", x.count(0, 0, 0), 15);
        Due.is("none behind a YEAR", x.count(0, 1, 0), 0);
        Due.is("count(0, 61, 0)", x.count(0, 61, 0), OUTSIDE);
        Due.is("count(0, -1, 0)", x.count(0, -1, 0), OUTSIDE);
        Due.is("count(0, 0, 3)", x.count(0, 0, 3), OUTSIDE);
        Due.is("count(0, 0, -1)", x.count(0, 0, -1), OUTSIDE);
        Due.is("count(2, 61, 0)", x.count(2, 61, 0), UNKNOWN);
        Due.is("count(-1, 0, 0)", x.count(-1, 0, 0), UNKNOWN);
    }

    private static void leave() {
        // no YOUNG (RAIN 0): 24 NESTS are together, as many as OPEN EAVES (10, 10, 10) take
        SwallowCount x = Due.landOf("t2 5 6;b1 9 9 9 0;b0 10 8 9 0;b0 10 8 9 0;b1 9 0 9 0;b0 10 8 9 0;w0;");
        Due.is("all OPEN", x.leave(0, 4, 4), 22);
        Due.is("two OPEN, the least SET", x.leave(0, 4, 3), 6);
        Due.is("one OPEN", x.leave(0, 0, 1), 2);
        Due.is("none OPEN", x.leave(0, 0, 0), 0);
        Due.is("NONE", x.leave(0, 3, 1), NONE);
        Due.is("NONE by SEATS", x.leave(0, 5, 99), NONE);
        x.open(1, false);
        x.open(0, false);
        Due.is("SHUT ones may be OPEN", x.leave(0, 4, 4), 22);
        Due.is("of the other COUNTY", x.leave(1, 1, 99), 9);
        Due.is("who is SHUT stays", x.told(7), 3);
        Due.is("nothing can be undone more", x.told(14), 2);
        Due.is("without BARNS", Due.landOf("t1 1 1;").leave(0, 0, 0), 0);
        Due.is("without BARNS, a SEAT", Due.landOf("t1 1 1;").leave(0, 1, 0), NONE);
        Due.is("leave(0, -1, 0)", x.leave(0, -1, 0), OUTSIDE);
        Due.is("leave(0, 100, 0)", x.leave(0, 100, 0), OUTSIDE);
        Due.is("leave(0, 0, -1)", x.leave(0, 0, -1), OUTSIDE);
        Due.is("leave(0, 0, 100)", x.leave(0, 0, 100), OUTSIDE);
        Due.is("leave(0, 99, 99)", x.leave(0, 99, 99), NONE);
        Due.is("leave(2, 100, 0)", x.leave(2, 100, 0), UNKNOWN);
        Due.is("leave(-1, 0, 0)", x.leave(-1, 0, 0), UNKNOWN);
    }

    private static void counters() {
        SwallowCount x = Due.landOf("t3 1 1;b0 9 0 0 0;b0 9 1 0 0;b0 9 2 0 0;b0 9 9 0 0;b1 9 1 0 0;");
        Due.is("counters(0)", x.counters(0), 4);
        Due.is("counters(1)", x.counters(1), 2);
        Due.is("counters(2)", x.counters(2), 0);
        x.open(3, false);
        Due.is("SHUT ones, too", x.counters(0), 4);
        Due.is("counters(3)", x.counters(3), UNKNOWN);
        Due.is("counters(-1)", x.counters(-1), UNKNOWN);
    }

    private static void game() {
        // COUNTY 0: 10 NESTS, S 1, RAIN 5: FAR 2 brings 13, 0 brings 15, 4 brings 11, 2 again 13.
        // COUNTY 1 the same: each deed is worth 2 SEATS less 1, so that both dig or smoke, whatever the other does
        SwallowCount x = Due.landOf("t3 1 1;b0 40 10 2 0;b1 40 10 2 0;");
        Due.is("game(0, 1, -1)", x.game(0, 1, -1), 4);
        Due.is("game(0, 1, 0)", x.game(0, 1, 0), 11);
        Due.is("game(0, 1, 1)", x.game(0, 1, 1), 12);
        Due.is("game(0, 1, 2)", x.game(0, 1, 2), 21);
        Due.is("game(0, 1, 3)", x.game(0, 1, 3), 22);
        Due.is("game(0, 1, 4)", x.game(0, 1, 4), NONE);
        Due.is("game(0, 1, -2)", x.game(0, 1, -2), NONE);
        // a COUNTY without BARNS has nothing but smoke, and the other one nothing but pools
        Due.is("game(0, 2, -1)", x.game(0, 2, -1), 1);
        Due.is("game(0, 2, 0)", x.game(0, 2, 0), 21);
        Due.is("game(0, 2, 1)", x.game(0, 2, 1), NONE);
        Due.is("game(2, 0, 0)", x.game(2, 0, 0), 12);
        Due.is("game(2, 0, 1)", x.game(2, 0, 1), NONE);
        Due.is("nothing changes", x.barn(0, 3) + x.told(14) + x.told(5), 2);
        Due.is("game(0, 0, -1)", x.game(0, 0, -1), UNKNOWN);
        Due.is("game(0, 3, -2)", x.game(0, 3, -2), UNKNOWN);
        Due.is("game(-1, 0, 0)", x.game(-1, 0, 0), UNKNOWN);
    }

    private static void smokeComesBehindPools() {
        // SOULS of COUNTY 0, of RAIN 5: FAR 1 has 14, by pools (0) 15, by smoke (3) 12, by both (0, then 2) 13
        // S 2: 7, 7, 6, 6 SEATS: pools are worth nothing, smoke of COUNTY 1, that has no BARNS, 1 less 1
        SwallowCount x = Due.landOf("t2 2 1;b0 40 10 1 0;");
        Due.is("game(0, 1, -1)", x.game(0, 1, -1), 2);
        Due.is("game(0, 1, 0)", x.game(0, 1, 0), 0);
        Due.is("game(0, 1, 1)", x.game(0, 1, 1), 1);
        // S 1: smoke is worth 2 less 1; pools against it 1 less 1 (smoke first would leave FAR 1: 2 less 1)
        x = Due.landOf("t2 1 1;b0 40 10 1 0;");
        Due.is("game(0, 1, -1)", x.game(0, 1, -1), 2);
        Due.is("game(0, 1, 0)", x.game(0, 1, 0), 1);
        Due.is("game(0, 1, 1)", x.game(0, 1, 1), 21);
    }

    private static void leastMud() {
        // RAIN 5: 10 NESTS, FAR 3 and 4: 12 and 11 SOULS of S 6: 3 SEATS; each MUD one SOUL more: 24 is one more
        SwallowCount x = Due.landOf("t2 6 1;b1 40 10 4 0;b0 40 10 3 0;b0 40 10 4 0;");
        Due.is("leastMud(0, -1)", x.leastMud(0, -1), 1);
        Due.is("less ahead", x.leastMud(0, 1), 0);
        Due.is("the last BARN has it", x.leastMud(0, 2), 1);
        Due.is("a BARN of another COUNTY", x.leastMud(0, 0), UNKNOWN);
        Due.is("leastMud(1, -1)", x.leastMud(1, -1), 1);
        Due.is("leastMud(1, 0)", x.leastMud(1, 0), 1);
        Due.is("nothing changes", x.barn(2, 3) + x.told(14), 4);
        // S 7: 23 SOULS, 28 are a SEAT more: 5 MUD, 4 at most for the last, then one for the first
        x = Due.landOf("t1 7 1;b0 40 10 3 0;b0 40 10 4 0;");
        Due.is("leastMud(0, -1)", x.leastMud(0, -1), 5);
        Due.is("leastMud(0, 0)", x.leastMud(0, 0), 1);
        Due.is("leastMud(0, 1)", x.leastMud(0, 1), 4);
        x = Due.landOf("t1 29 1;b0 40 10 3 0;b0 40 10 4 0;");
        Due.is("29 SOULS would need 6", x.leastMud(0, -1), NONE);
        Due.is("NONE for a BARN", x.leastMud(0, 1), NONE);
        // more than one SEAT at once is a SEAT more, too
        x = Due.landOf("t1 1 1;b0 40 30 4 0;");
        Due.is("three SEATS more", x.leastMud(0, -1), 1);
        // GLAZED, SHUT, far beyond RAIN: none
        x = Due.landOf("t1 1 1;b0 40 30 4 2;b0 40 30 4 0;b0 40 30 9 0;w3;");
        x.open(1, false);
        Due.is("no MUD serves", x.leastMud(0, -1), NONE);
        Due.is("leastMud(1, -1)", x.leastMud(1, -1), UNKNOWN);
        Due.is("leastMud(-1, -1)", x.leastMud(-1, -1), UNKNOWN);
        Due.is("leastMud(0, 3)", x.leastMud(0, 3), UNKNOWN);
        Due.is("leastMud(0, -2)", x.leastMud(0, -2), UNKNOWN);
        Due.is("without BARNS", Due.landOf("t1 1 1;").leastMud(0, -1), NONE);
    }

    private static void votes() {
        SwallowCount x = Due.landOf("t3 1 1;b0 9 9 9 0;b1 9 9 9 0;b0 9 9 9 0;");
        x.ring(0, 2);
        x.ring(1, 4);
        x.ring(2, 3);
        Due.is("votes(0)", x.votes(0), 5);
        Due.is("votes(1)", x.votes(1), 4);
        Due.is("votes(2)", x.votes(2), 0);
        Due.is("votes(3)", x.votes(3), UNKNOWN);
        Due.is("votes(-1)", x.votes(-1), UNKNOWN);
    }

    private static void elected() {
        SwallowCount x = Due.landOf("t3 1 1;b1 9 9 9 0;b2 9 9 9 0;");
        Due.is("no VOTES: the least", x.elected(), 0);
        x.ring(1, 2);
        Due.is("elected()", x.elected(), 2);
        x.ring(0, 2);
        Due.is("of like ones the least", x.elected(), 1);
        Due.is("no COUNTIES", new SwallowCount().elected(), NONE);
    }

    private static void spring() {
        SwallowCount x = new SwallowCount();
        Due.is("spring(0, 50)", x.spring(0, 50), 1000000000);
        Due.is("spring(1, 0)", x.spring(1, 0), 1000000000);
        Due.is("spring(30, 0)", x.spring(30, 0), 1000000000);
        Due.is("spring(1, 100)", x.spring(1, 100), 0);
        Due.is("spring(2, 1)", x.spring(2, 1), 980100000);
        // 10 ^ 9 halved: 500000000 .. 1953125, 976562, 488281, 244140, 122070, 61035, 30517
        Due.is("spring(15, 50)", x.spring(15, 50), 30517);
        Due.is("spring(4, 99)", x.spring(4, 99), 10);
        Due.is("spring(5, 99)", x.spring(5, 99), 0);
        // cut each time: cut once it would be 941480149
        Due.is("spring(6, 1)", x.spring(6, 1), 941480148);
        Due.is("spring(10, 10)", x.spring(10, 10), 348678440);
        Due.is("spring(11, 10)", x.spring(11, 10), 313810596);
        Due.is("spring(-1, 0)", x.spring(-1, 0), OUTSIDE);
        Due.is("spring(31, 0)", x.spring(31, 0), OUTSIDE);
        Due.is("spring(0, -1)", x.spring(0, -1), OUTSIDE);
        Due.is("spring(0, 101)", x.spring(0, 101), OUTSIDE);
    }

    private static void see() {
        SwallowCount x = Due.landOf("t1 1 1;b0 9 9 9 0;");
        Due.is("see(0, -1)", x.see(0, -1), OUTSIDE);
        Due.is("see(0, 41)", x.see(0, 41), OUTSIDE);
        Due.is("see(1, 41)", x.see(1, 41), UNKNOWN);
        Due.is("see(-1, 0)", x.see(-1, 0), UNKNOWN);
        for (int k = 1; k <= 8; k++) {
            Due.is("see", x.see(0, k == 1 ? 0 : 40), k);
        }
        Due.is("see(0, 0)", x.see(0, 0), FULL);
        Due.is("see(0, 41)", x.see(0, 41), OUTSIDE);
        Due.is("told(11)", x.told(11), 8);
        Due.is("told(14)", x.told(14), 0);
    }

    private static void moved() {
        // RAIN 0: what is moved stays; 3 NESTS, 2 free; the third is full
        SwallowCount x = Due.landOf("t1 1 1;b0 9 3 9 0;b0 9 7 9 0;b0 4 4 9 0;w0;");
        // 0 to 1: 1, 2; 1 to 0: 1 .. 5; 2 to 0: 1 .. 4; 2 to 1: 1, 2
        int[] ways = {11, 12, 101, 102, 103, 104, 105, 201, 202, 203, 204, 211, 212};
        Due.is("moved(-1)", x.moved(-1), ways.length);
        for (int i = 0; i < ways.length; i++) {
            Due.is("moved(" + i + ")", x.moved(i), ways[i]);
        }
        Due.is("moved(13)", x.moved(13), NONE);
        Due.is("moved(-2)", x.moved(-2), NONE);
        x.see(0, 5);
        Due.is("moved(-1)", x.moved(-1), 2);
        Due.is("moved(0)", x.moved(0), 102);
        Due.is("moved(1)", x.moved(1), 202);
        x.see(1, 7);
        Due.is("moved(-1)", x.moved(-1), 1);
        Due.is("moved(0)", x.moved(0), 202);
        Due.is("moved(1)", x.moved(1), NONE);
        x.move(0, 1, 1);
        Due.is("from when it is asked", x.moved(-1), 0);
        x.undo();
        x.see(1, 8);
        Due.is("all that is SEEN", x.moved(-1), 0);
        Due.is("nothing changes", x.told(8) + x.told(5), 14);
    }

    private static void movedByRain() {
        // RAIN 9, then 0: BARN 0 would have 10 + 9, BARN 1 10; 18 of BARN 0 are told by 1 moved away (9 + 8 + 1)
        SwallowCount x = Due.landOf("t2 1 1;b0 40 10 0 0;b1 40 10 9 2;w9,0;");
        x.see(0, 18);
        Due.is("moved(-1)", x.moved(-1), 1);
        Due.is("moved(0)", x.moved(0), 11);
        x.year(1);
        // 20 NESTS now, RAIN 0: two moved away
        Due.is("RAIN of the next YEAR", x.moved(0), 12);
        x.open(0, false);
        Due.is("a SHUT BARN has none", x.moved(-1), 0);
    }

    private static void rough() {
        SwallowCount x = Due.landOf("t1 1 1;b0 9 9 9 0;b0 9 9 9 0;");
        Due.is("rough(4, 0)", x.rough(4, 0), UNKNOWN);
        Due.is("rough(7, 321)", x.rough(7, 321), UNKNOWN);
        Due.is("rough(-1, 0)", x.rough(-1, 0), UNKNOWN);
        Due.is("rough(MIN, 0)", x.rough(Integer.MIN_VALUE, 0), UNKNOWN);
        Due.is("rough(3, -1)", x.rough(3, -1), OUTSIDE);
        Due.is("rough(3, 321)", x.rough(3, 321), OUTSIDE);
        for (int k = 1; k <= 8; k++) {
            Due.is("rough", x.rough(k == 1 ? 0 : 3, k == 2 ? 320 : 0), k);
        }
        Due.is("rough(3, 0)", x.rough(3, 0), FULL);
        Due.is("rough(3, 321)", x.rough(3, 321), OUTSIDE);
        Due.is("rough(4, 0)", x.rough(4, 0), UNKNOWN);
        Due.is("told(12)", x.told(12), 8);
    }

    private static void span() {
        SwallowCount x = Due.landOf("t1 1 1;b0 10 1 9 0;b0 20 1 9 0;b0 30 1 9 0;b0 0 0 9 0;");
        Due.is("span(0, 0)", x.span(0, 0), 0);
        Due.is("span(0, 1)", x.span(0, 1), 10);
        Due.is("no EAVES", x.span(3, 1), 0);
        x.rough(0, 9);
        Due.is("a count of nobody", x.span(0, 1), 10);
        x.rough(7, 55);
        Due.is("span(0, 0)", x.span(0, 0), 5);
        Due.is("span(1, 0)", x.span(1, 0), 15);
        Due.is("span(2, 0)", x.span(2, 0), 25);
        Due.is("span(2, 1)", x.span(2, 1), 30);
        x.rough(3, 12);
        Due.is("of two the narrower", x.span(0, 0), 5);
        Due.is("of two the narrower", x.span(0, 1), 10);
        Due.is("none fits", x.span(1, 0), NONE);
        Due.is("none fits", x.span(1, 1), NONE);
        Due.is("counts are not taken together", x.span(2, 0), 25);
        x.rough(1, 7);
        Due.is("span(0, 0)", x.span(0, 0), 7);
        Due.is("span(0, 1)", x.span(0, 1), 7);
        Due.is("span(0, 2)", x.span(0, 2), OUTSIDE);
        Due.is("span(0, -1)", x.span(0, -1), OUTSIDE);
        Due.is("span(4, 2)", x.span(4, 2), UNKNOWN);
        Due.is("span(-1, 0)", x.span(-1, 0), UNKNOWN);
        Due.is("NESTS of now don't matter", x.barn(0, 2), 1);
    }

    private static void uncounted() {
        SwallowCount x = Due.landOf("t1 1 1;b0 10 1 9 0;b0 20 1 9 0;b0 0 0 9 0;");
        Due.is("uncounted()", x.uncounted(), 3);
        x.rough(2, 20);
        Due.is("uncounted()", x.uncounted(), 1);
        x.rough(3, 0);
        Due.is("none fits", x.uncounted(), 2);
        x.rough(4, 1);
        Due.is("none fits", x.uncounted(), 6);
    }

    private static void write() {
        SwallowCount x = Due.landOf("t2 1 1;b0 9 9 9 0;");
        Due.is("write(0, -1)", x.write(0, -1), OUTSIDE);
        Due.is("write(0, 321)", x.write(0, 321), OUTSIDE);
        Due.is("write(2, 321)", x.write(2, 321), UNKNOWN);
        Due.is("write(-1, 0)", x.write(-1, 0), UNKNOWN);
        for (int k = 1; k <= 15; k++) {
            Due.is("write", x.write(k % 2, k == 1 ? 320 : 0), k);
        }
        Due.is("write(0, 0)", x.write(0, 0), FULL);
        Due.is("write(0, 321)", x.write(0, 321), OUTSIDE);
        Due.is("write(2, 0)", x.write(2, 0), UNKNOWN);
        Due.is("told(13)", x.told(13), 15);
    }

    private static void tear() {
        SwallowCount x = Due.landOf("t1 1 1;b0 9 9 9 0;");
        Due.is("tear()", x.tear(), 0);
        x.see(0, 1);
        x.rough(1, 1);
        x.rough(1, 2);
        x.write(0, 1);
        x.write(0, 1);
        x.write(0, 1);
        Due.is("tear()", x.tear(), 6);
        Due.is("told(11)", x.told(11), 0);
        Due.is("told(12)", x.told(12), 0);
        Due.is("told(13)", x.told(13), 0);
        Due.is("judge()", x.judge(), NONE);
        Due.is("span(0, 1)", x.span(0, 1), 9);
        Due.is("tear()", x.tear(), 0);
        Due.is("see", x.see(0, 1), 1);
    }

    private static void judge() {
        SwallowCount x = Due.landOf("t3 1 1;b0 9 4 9 0;b1 9 5 9 0;b0 9 2 9 0;");
        Due.is("judge()", x.judge(), NONE);
        x.write(0, 6);
        x.write(2, 0);
        x.write(1, 5);
        Due.is("judge()", x.judge(), NONE);
        x.write(1, 4);
        x.write(0, 0);
        Due.is("judge()", x.judge(), 3);
        x.move(0, 1, 1);
        Due.is("as it is now", x.judge(), 0);
        x.undo();
        x.open(1, false);
        Due.is("SHUT ones have SOULS", x.judge(), 3);
    }

    private static void seed() {
        SwallowCount x = new SwallowCount();
        Due.is("seed(5)", x.seed(5), 0);
        Due.is("seed(-1)", x.seed(-1), OUTSIDE);
        Due.is("seed(MIN)", x.seed(Integer.MIN_VALUE), OUTSIDE);
        Due.is("seed(MAX)", x.seed(Integer.MAX_VALUE), 5);
        Due.is("seed(0)", x.seed(0), Integer.MAX_VALUE);
    }

    private static void images() {
        SwallowCount x = Due.landOf("t1 1 1;b0 40 10 5 1;b0 40 10 5 0;w8;");
        x.year(1);
        x.ring(0, 3);
        x.mud(0, 2);
        x.open(1, false);
        x.seed(44);
        int[] told = new int[15];
        for (int what = 0; what < told.length; what++) {
            told[what] = x.told(what);
        }
        Due.is("keep(1)", x.keep(1), 1);
        Due.is("undo()", x.undo(), NOT);
        x.see(0, 1);
        x.drift(9);
        x.mud(0, 1);
        x.open(1, true);
        Due.is("goBack(0)", x.goBack(0), NOT);
        Due.is("a refused one leaves what can be undone", x.told(14), 3);
        Due.is("keep(2)", x.keep(2), UNKNOWN);
        Due.is("keep(-1)", x.keep(-1), UNKNOWN);
        Due.is("goBack(2)", x.goBack(2), UNKNOWN);
        Due.is("goBack(-1)", x.goBack(-1), UNKNOWN);
        Due.is("told(14)", x.told(14), 3);
        Due.is("goBack(1)", x.goBack(1), 1);
        for (int what = 0; what < 11; what++) {
            Due.is("told(" + what + ")", x.told(what), told[what]);
        }
        Due.is("what was SEEN stays", x.told(11), 1);
        Due.is("undo()", x.undo(), NOT);
        Due.is("barn(0, 3)", x.barn(0, 3), 3);
        Due.is("THE SEED", x.seed(45), 44);
        x.year(3);
        Due.is("keep(0)", x.keep(0), 1);
        x.year(3);
        Due.is("goBack(1) again", x.goBack(1), 1);
        Due.is("told(5)", x.told(5), 1);
        Due.is("goBack(0)", x.goBack(0), 1);
        Due.is("told(5)", x.told(5), 4);
        Due.is("THE SEED", x.seed(0), 45);
        x.year(1);
        Due.is("keep(0) anew", x.keep(0), 1);
        x.year(1);
        x.goBack(0);
        Due.is("told(5)", x.told(5), 5);
    }

    private static void group(int number) {
        Due.heading("promise " + number);
        switch (number) {
            case 1: aNewObject(); break;
            case 3: aLandTakesThePlaceOfAnother(); break;
            case 5: told(); break;
            case 6: barn(); break;
            case 7: year(); break;
            case 8: open(); break;
            case 9: move(); break;
            case 10: mud(); break;
            case 11: ring(); break;
            case 12: drift(); break;
            case 13: undo(); undoOfTheOldest(); break;
            case 14: count(); break;
            case 15: leave(); break;
            case 16: counters(); break;
            case 17: game(); smokeComesBehindPools(); break;
            case 18: leastMud(); break;
            case 19: votes(); break;
            case 20: elected(); break;
            case 21: spring(); break;
            case 22: see(); break;
            case 23: moved(); movedByRain(); break;
            case 24: rough(); break;
            case 25: span(); break;
            case 26: uncounted(); break;
            case 27: write(); break;
            case 28: tear(); break;
            case 29: judge(); break;
            case 30: seed(); break;
            case 31: case 32: images(); break;
            default: break; // 2 and 4 have a test of their own: FaultRuns
        }
    }

    public static void main(String[] args) {
        for (int number = 1; number <= 32; number++) {
            group(number);
        }
        Due.end();
    }
}
