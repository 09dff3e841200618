/** Section 3, promises 14 to 21: a test for each sentence that names a boundary of what is only TRIED. */
public final class BoundsOfTrials {
    private static final int NONE = Due.NONE, UNKNOWN = Due.UNKNOWN, OUTSIDE = Due.OUTSIDE;

    private static void nothingChanges() {
        Due.sentence("TRIED from now; nothing changes by it.");
        Due.onlyAsks("count(0, 60, 0)", Scenes::busy, x -> x.count(0, 60, 0));
        Due.onlyAsks("count(1, 1, 1)", Scenes::busy, x -> x.count(1, 1, 1));
        Due.onlyAsks("leave(0, 0, 0)", Scenes::busy, x -> x.leave(0, 0, 0));
        Due.onlyAsks("leave(1, 1, 99)", Scenes::busy, x -> x.leave(1, 1, 99));
        Due.onlyAsks("counters(0)", Scenes::busy, x -> x.counters(0));
        Due.onlyAsks("game(0, 1, -1)", Scenes::busy, x -> x.game(0, 1, -1));
        Due.onlyAsks("game(1, 0, 0)", Scenes::busy, x -> x.game(1, 0, 0));
        Due.onlyAsks("leastMud(0, -1)", Scenes::busy, x -> x.leastMud(0, -1));
        Due.onlyAsks("leastMud(1, 1)", Scenes::busy, x -> x.leastMud(1, 1));
        Due.onlyAsks("moved(-1)", Scenes::busy, x -> x.moved(-1));
        Due.onlyAsks("moved(0)", Scenes::busy, x -> x.moved(0));
        Due.onlyAsks("span(0, 0)", Scenes::busy, x -> x.span(0, 0));
        Due.onlyAsks("uncounted()", Scenes::busy, x -> x.uncounted());
        Due.onlyAsks("votes(0)", Scenes::busy, x -> x.votes(0));
        Due.onlyAsks("elected()", Scenes::busy, x -> x.elected());
        Due.onlyAsks("spring(30, 1)", Scenes::busy, x -> x.spring(30, 1));
        Due.onlyAsks("judge()", Scenes::busy, x -> x.judge());
        Due.onlyAsks("told(8)", Scenes::busy, x -> x.told(8));
        Due.onlyAsks("barn(0, 2)", Scenes::busy, x -> x.barn(0, 2));
        Due.onlyAsks("fault()", Scenes::busy, x -> x.fault());
    }

    // ---- COUNT

    private static void count() {
        Due.sentence("COUNT of a COUNTY behind n YEARS (0 .. 60; RAIN as told): what = 0 SOULS, 1 SEATS, 2 MEN.");
        SwallowCount x = Due.landOf("t2 3 4;b0 40 10 0 0;b1 40 5 9 0;w5,9;");
        int[][] want = {{10, 3, 2}, {15, 5, 3}, {29, 9, 7}};
        for (int n = 0; n < want.length; n++) {
            for (int what = 0; what < 3; what++) {
                Due.is("count(0, " + n + ", " + what + ")", x.count(0, n, what), want[n][what]);
            }
        }
        // BARN 1 has one more each second YEAR: 5 and 30
        Due.is("count(1, 60, 0)", x.count(1, 60, 0), 35);
        Due.is("count(1, 59, 0)", x.count(1, 59, 0), 34);
        x.year(1);
        Due.is("from now: RAIN 9 is next", x.count(0, 1, 0), 29);
        Due.is("from now: 60", x.count(1, 60, 0), 35);
        x.year(60);
        Due.is("as it comes then", x.count(1, 0, 0), 35);
        Due.sentence("`int count(int c, int n, int what)`: COUNT. UNKNOWN, OUTSIDE.");
        for (int n : new int[] {Due.LEAST, -1, 61, Due.MOST}) {
            Due.is("count(0, " + n + ", 0)", x.count(0, n, 0), OUTSIDE);
        }
        for (int what : new int[] {Due.LEAST, -1, 3, Due.MOST}) {
            Due.is("count(0, 0, " + what + ")", x.count(0, 0, what), OUTSIDE);
        }
        for (int c : new int[] {Due.LEAST, -1, 2, Due.MOST}) {
            Due.is("count(" + c + ", 0, 0)", x.count(c, 0, 0), UNKNOWN);
        }
    }

    // ---- LEAVE

    private static void leaveBounds() {
        Due.sentence("it has s SEATS or more (0 .. 99) and m MEN at most (0 .. 99)");
        SwallowCount x = Due.landOf("t1 1 30;b0 40 40 9 0;b0 40 40 9 0;b0 40 40 9 0;w0;");
        // 120 SOULS: 120 SEATS, 4 MEN; two BARNS: 80, 2; one: 40, 1; none: 0, 0
        Due.is("leave(0, 99, 99)", x.leave(0, 99, 99), 7);
        Due.is("leave(0, 99, 4)", x.leave(0, 99, 4), 7);
        Due.is("leave(0, 99, 3)", x.leave(0, 99, 3), NONE);
        Due.is("leave(0, 80, 3)", x.leave(0, 80, 3), 3);
        Due.is("leave(0, 80, 2)", x.leave(0, 80, 2), 3);
        Due.is("leave(0, 81, 2)", x.leave(0, 81, 2), NONE);
        Due.is("leave(0, 40, 1)", x.leave(0, 40, 1), 1);
        Due.is("leave(0, 41, 1)", x.leave(0, 41, 1), NONE);
        Due.is("leave(0, 0, 0)", x.leave(0, 0, 0), 0);
        Due.is("leave(0, 1, 0)", x.leave(0, 1, 0), NONE);
        // 99 MEN are not too many, 100 are; 99 SEATS are as many as can be asked for
        x = Due.landOf("t2 1 1;b0 33 33 9 0;b0 33 33 9 0;b0 33 33 9 0;b1 33 33 9 0;b1 33 33 9 0;b1 34 34 9 0;w0;");
        Due.is("99 SOULS", x.leave(0, 99, 99), 7);
        Due.is("99 SOULS, 98 MEN", x.leave(0, 99, 98), NONE);
        Due.is("100 SOULS", x.leave(1, 0, 99), 24);
        Due.is("100 SOULS, 99 SEATS", x.leave(1, 99, 99), NONE);
    }

    private static void leaveChooses() {
        Due.sentence("the one of fewest SHUT BARNS, of like ones the least; NONE.");
        // 8 NESTS each, EAVES for 10: two OPEN take 20 of 24
        SwallowCount x = Due.landOf("t1 5 6;b0 10 8 9 0;b0 10 8 9 0;b0 10 8 9 0;w0;");
        Due.is("none is SHUT", x.leave(0, 4, 4), 7);
        Due.is("one is SHUT, the least SET", x.leave(0, 4, 3), 3);
        Due.is("two are SHUT", x.leave(0, 2, 1), 1);
        Due.is("all are SHUT", x.leave(0, 0, 0), 0);
        Due.is("NONE", x.leave(0, 5, 99), NONE);
        // SETS 3, 5, 6 have 16, 17, 17: the least of those that fit
        x = Due.landOf("t1 17 8;b0 8 8 9 0;b0 8 8 9 0;b0 9 8 9 0;w0;");
        Due.is("the least does not fit", x.leave(0, 1, 2), 5);
        // 6 has 16, 1 has 20, the others too many or too few: fewer are SHUT by 6
        x = Due.landOf("t1 1 1;b0 20 20 9 0;b0 8 8 9 0;b0 8 8 9 0;w0;");
        Due.is("fewest SHUT ones ahead of the least SET", x.leave(0, 16, 20), 6);
        Due.is("without BARNS", Due.landOf("t1 1 1;").leave(0, 0, 0), 0);
        Due.is("without BARNS, a SEAT", Due.landOf("t1 1 1;").leave(0, 1, 99), NONE);
        // as many BARNS as there can be
        x = Due.landOf(Due.eightBarns("t1 30 30;", "b0 40 40 9 0;"));
        Due.is("all of 8", x.leave(0, 10, 10), 255);
        Due.is("7 of 8", x.leave(0, 9, 9), 127);
        Due.is("1 of 8", x.leave(0, 1, 1), 1);
    }

    private static void leaveOtherCounties() {
        Due.sentence("of BARNS of a COUNTY the SET that is left OPEN (others of it SHUT; other COUNTIES as now)");
        SwallowCount x = Due.landOf("t2 1 1;b1 9 9 9 0;b0 9 9 9 0;b1 9 5 9 0;b0 9 5 9 0;w0;");
        x.open(0, false);
        x.open(1, false);
        Due.is("bits of its own alone", x.leave(0, 0, 99), 10);
        Due.is("of the other", x.leave(1, 0, 99), 5);
        Due.is("SHUT ones are OPEN by it", x.leave(0, 14, 14), 10);
        Due.sentence("`int leave(int c, int seats, int men)`: LEAVE; NONE. UNKNOWN, OUTSIDE.");
        Due.is("NONE", x.leave(0, 99, 0), NONE);
        for (int n : new int[] {Due.LEAST, -1, 100, Due.MOST}) {
            Due.is("leave(0, " + n + ", 0)", x.leave(0, n, 0), OUTSIDE);
            Due.is("leave(0, 0, " + n + ")", x.leave(0, 0, n), OUTSIDE);
        }
        for (int c : new int[] {Due.LEAST, -1, 2, Due.MOST}) {
            Due.is("leave(" + c + ", 0, 99)", x.leave(c, 0, 99), UNKNOWN);
        }
    }

    // ---- COUNTERS

    private static void counters() {
        Due.sentence("the one counts NESTS of 2 or more in each BARN (none of a BARN that has 1), "
            + "the other one NESTS and one more for each BARN that has any: of a COUNTY by how much they differ.");
        int[][] nestsAndWant = {{0, 0}, {1, 2}, {2, 1}, {3, 1}, {40, 1}};
        for (int[] row : nestsAndWant) {
            Due.is("counters of " + row[0], Due.landOf("t1 1 1;b0 40 " + row[0] + " 9 0;").counters(0), row[1]);
        }
        SwallowCount x = Due.landOf("t3 1 1;b0 9 0 0 0;b0 9 1 0 0;b0 9 2 0 0;b1 9 1 0 0;");
        Due.is("counters(0)", x.counters(0), 3);
        Due.is("counters(1)", x.counters(1), 2);
        Due.is("without BARNS", x.counters(2), 0);
        Due.is("8 BARNS of 1", Due.landOf(Due.eightBarns("t1 1 1;", "b0 9 1 0 0;")).counters(0), 16);
        Due.sentence("`int counters(int c)`: COUNTERS. UNKNOWN.");
        for (int c : new int[] {Due.LEAST, -1, 3, Due.MOST}) {
            Due.is("counters(" + c + ")", x.counters(c), UNKNOWN);
        }
    }

    // ---- GAME

    private static void gameAnswers() {
        Due.sentence("GAME: i = NONE how many, else the i-th; NONE (i below NONE, too). UNKNOWN.");
        // each deed is worth 1 SEAT whatever the other does: all 9 pairs
        SwallowCount x = Due.landOf("t2 1 1;b0 6 3 2 0;b1 9 4 4 0;w7;");
        Due.is("how many", x.game(0, 1, NONE), 9);
        for (int i = 0; i < 9; i++) {
            Due.is("game(0, 1, " + i + ")", x.game(0, 1, i), 10 * (i / 3) + i % 3);
        }
        for (int i : new int[] {Due.LEAST, -3, -2, 9, 10, Due.MOST}) {
            Due.is("game(0, 1, " + i + ")", x.game(0, 1, i), NONE);
        }
        Due.is("one twice", x.game(0, 0, NONE), UNKNOWN);
        Due.is("game(-1, 0, NONE)", x.game(-1, 0, NONE), UNKNOWN);
        Due.is("game(0, -1, NONE)", x.game(0, -1, NONE), UNKNOWN);
        Due.is("game(2, 0, NONE)", x.game(2, 0, NONE), UNKNOWN);
        Due.is("game(0, 2, NONE)", x.game(0, 2, NONE), UNKNOWN);
    }

    private static void gameWithoutRest() {
        Due.sentence("pairs at which neither has more by doing otherwise: how many; "
            + "the i-th (10 times what the first does and the other; rising); NONE.");
        // SOULS 7; 9 by pools, 7 by pools and smoke: COUNTY 0 digs if there is no smoke, COUNTY 1 smokes if there are pools
        SwallowCount x = Due.landOf("t2 1 1;b0 9 7 4 0;");
        Due.is("no pair", x.game(0, 1, NONE), 0);
        Due.is("no first", x.game(0, 1, 0), NONE);
        Due.is("no pair", x.game(1, 0, NONE), 0);
        Due.is("no first", x.game(1, 0, 0), NONE);
        // nothing helps: doing nothing alone
        x = Due.landOf("t2 1 1;");
        Due.is("without BARNS", x.game(0, 1, NONE), 1);
        Due.is("both do nothing", x.game(0, 1, 0), 0);
        Due.is("no second", x.game(0, 1, 1), NONE);
        // 10 NESTS, FAR 2: each deed is worth 2 less 1
        x = Due.landOf("t2 1 1;b0 40 10 2 0;b1 40 10 2 0;");
        int[] pairs = {11, 12, 21, 22};
        Due.is("how many", x.game(0, 1, NONE), 4);
        for (int i = 0; i < 4; i++) {
            Due.is("game(0, 1, " + i + ")", x.game(0, 1, i), pairs[i]);
        }
        Due.is("game(0, 1, 4)", x.game(0, 1, 4), NONE);
        // as many BARNS as there can be, 4 for each: a deed is worth 8 less 1
        x = Due.landOf("t2 1 1;" + "b0 40 10 2 0;b1 40 10 2 0;".repeat(4));
        Due.is("8 BARNS", x.game(0, 1, NONE), 4);
        Due.is("8 BARNS, the last", x.game(0, 1, 3), 22);
    }

    private static void gameByPools() {
        Due.sentence("pools: FAR of its own BARNS is 2 less (0 at least); smoke: FAR of the other one's, behind that, is 2 more.");
        // RAIN 5, 20 NESTS, FAR 1: 28; by pools (0) 30; by smoke (3) 24; by both (0, then 2) 26. S 3: 9, 10, 8, 8 SEATS.
        // Pools are worth 1 less 1, against smoke 0 less 1; smoke is worth 1 less 1, against pools 2 less 1
        SwallowCount x = Due.landOf("t2 3 1;b0 40 20 1 0;");
        Due.is("how many", x.game(0, 1, NONE), 2);
        Due.is("both do nothing", x.game(0, 1, 0), 0);
        Due.is("smoke of the other", x.game(0, 1, 1), 1);
        // FAR 0: pools bring nothing, against smoke, too
        x = Due.landOf("t2 1 1;b0 40 20 0 0;");
        Due.is("smoke alone", x.game(0, 1, NONE), 1);
        Due.is("smoke, no pools", x.game(0, 1, 0), 1);
        // FAR 9: smoke takes nothing, pools bring nothing
        x = Due.landOf("t2 1 1;b0 40 20 9 0;b1 40 20 9 0;w7;");
        Due.is("doing nothing", x.game(0, 1, NONE), 1);
        Due.is("doing nothing", x.game(0, 1, 0), 0);
    }

    private static void gameOfSeats() {
        Due.sentence("Each wants most SEATS of its own less the other's behind one YEAR, less 1, if it does anything");
        // RAIN 5, FAR 3, 10 NESTS: 12, by pools 14: S 14 brings 1 less 1, S 13 the same, S 15 nothing
        Due.is("worth 1 less 1", Due.landOf("t2 14 1;b0 40 10 3 0;").game(0, 1, NONE), 2);
        Due.is("doing nothing", Due.landOf("t2 14 1;b0 40 10 3 0;").game(0, 1, 0), 0);
        Due.is("digging", Due.landOf("t2 14 1;b0 40 10 3 0;").game(0, 1, 1), 20);
        Due.is("worth nothing", Due.landOf("t2 15 1;b0 40 10 3 0;").game(0, 1, NONE), 1);
    }

    // ---- MUD

    private static void leastMud() {
        Due.sentence("the least MUD (0 .. 5 together) for BARNS of a COUNTY by which it has a SEAT more behind one YEAR than without");
        // RAIN 9: 10 NESTS have 10, and by each MUD one more; one more by (d): 11 and MUD
        for (int seat = 12; seat <= 16; seat++) {
            SwallowCount x = Due.landOf("t1 " + seat + " 1;b0 40 10 9 0;w9;");
            Due.is("a SEAT of " + seat, x.leastMud(0, NONE), seat - 11);
            Due.is("all for the BARN", x.leastMud(0, 0), seat - 11);
        }
        SwallowCount x = Due.landOf("t1 17 1;b0 40 10 9 0;w9;");
        Due.is("6 would be needed", x.leastMud(0, NONE), NONE);
        Due.is("6 would be needed", x.leastMud(0, 0), NONE);
        // of two BARNS: 5 together, not 5 each
        x = Due.landOf("t1 28 1;b0 40 10 9 0;b0 40 10 9 0;w9;");
        Due.is("6 of two", x.leastMud(0, NONE), NONE);
        x = Due.landOf("t1 27 1;b0 40 10 9 0;b0 40 10 9 0;w9;");
        Due.is("5 of two", x.leastMud(0, NONE), 5);
        // a SEAT more than without: 12 SOULS are 4 SEATS already, 15 are 5
        Due.is("the next SEAT", Due.landOf("t1 3 1;b0 40 10 3 0;").leastMud(0, NONE), 3);
        Due.is("no next SEAT", Due.landOf("t1 12 1;b0 40 10 3 0;").leastMud(0, NONE), NONE);
        // FAR 0: none serves; without BARNS: none
        Due.is("FAR 0", Due.landOf("t1 1 1;b0 40 10 0 0;w7;").leastMud(0, NONE), NONE);
        Due.is("without BARNS", Due.landOf("t1 1 1;").leastMud(0, NONE), NONE);
        // three SEATS more at once are a SEAT more, too
        Due.is("S 1", Due.landOf("t1 1 1;b0 40 30 5 0;w7;").leastMud(0, NONE), 1);
    }

    private static void firstMud() {
        Due.sentence("of like ones the first (BARN by BARN, less ahead): how much; how much for a BARN; NONE.");
        SwallowCount x = Due.landOf("t1 24 1;b0 40 10 9 0;b0 40 10 9 0;w9;");
        Due.is("2 together", x.leastMud(0, NONE), 2);
        Due.is("less ahead", x.leastMud(0, 0), 0);
        Due.is("more behind", x.leastMud(0, 1), 2);
        // the last one is FAR by 0: 14 and 15 is 29, 30 is a SEAT more
        x = Due.landOf("t1 30 1;b0 40 10 1 0;b0 40 10 0 0;");
        Due.is("1 together", x.leastMud(0, NONE), 1);
        Due.is("for the first", x.leastMud(0, 0), 1);
        Due.is("none for the last", x.leastMud(0, 1), 0);
        // RAIN 5: 11, 11, 0, 11, 14 is 47, 48 is a SEAT more
        x = Due.landOf("t1 16 1;b0 40 10 4 0;b0 40 10 4 0;b0 40 0 1 0;b0 40 10 4 0;b0 40 10 1 0;");
        Due.is("1 together", x.leastMud(0, NONE), 1);
        Due.is("for the last", x.leastMud(0, 4), 1);
        // 47 is 6, 49 is 7 SEATS: 2, of which the last, FAR by 1, takes 1
        x = Due.landOf("t1 7 1;b0 40 10 4 0;b0 40 10 4 0;b0 40 0 1 0;b0 40 10 4 0;b0 40 10 1 0;");
        Due.is("2 together", x.leastMud(0, NONE), 2);
        int[] shares = {0, 0, 0, 1, 1};
        for (int b = 0; b < shares.length; b++) {
            Due.is("for BARN " + b, x.leastMud(0, b), shares[b]);
        }
    }

    private static void mudForWhom() {
        Due.sentence("MUD: b = NONE how much, else for a BARN; NONE. UNKNOWN (a BARN of another COUNTY, too).");
        SwallowCount x = Due.landOf("t2 12 1;b0 40 10 9 0;b1 40 10 9 0;w9;");
        Due.is("how much", x.leastMud(0, NONE), 1);
        Due.is("for a BARN", x.leastMud(0, 0), 1);
        Due.is("of another COUNTY", x.leastMud(0, 1), UNKNOWN);
        Due.is("of another COUNTY", x.leastMud(1, 0), UNKNOWN);
        Due.is("its own", x.leastMud(1, 1), 1);
        for (int b : new int[] {Due.LEAST, -2, 2, 8, Due.MOST}) {
            Due.is("leastMud(0, " + b + ")", x.leastMud(0, b), UNKNOWN);
        }
        Due.is("leastMud(-1, NONE)", x.leastMud(-1, NONE), UNKNOWN);
        Due.is("leastMud(2, NONE)", x.leastMud(2, NONE), UNKNOWN);
        // UNKNOWN comes ahead of NONE
        x = Due.landOf("t2 30 1;b0 40 10 9 0;b1 40 10 9 0;w9;");
        Due.is("NONE for its own", x.leastMud(0, 0), NONE);
        Due.is("of another COUNTY", x.leastMud(0, 1), UNKNOWN);
        // as many BARNS as there can be: 11 each is 88, by each MUD one more
        x = Due.landOf(Due.eightBarns("t1 1 1;", "b0 40 10 9 0;") + "w9;");
        Due.is("8 BARNS", x.leastMud(0, NONE), 1);
        Due.is("the last", x.leastMud(0, 7), 1);
        Due.is("the first", x.leastMud(0, 0), 0);
        x = Due.landOf(Due.eightBarns("t1 30 1;", "b0 40 10 9 0;") + "w9;");
        Due.is("8 BARNS, 2 for a third SEAT", x.leastMud(0, NONE), 2);
    }

    // ---- VOTES, ELECTED, SPRING

    private static void votes() {
        Due.sentence("VOTES of a COUNTY: RINGS of its BARNS.");
        SwallowCount x = Due.landOf("t3 1 1;b0 9 9 9 0;b1 9 9 9 0;b0 9 9 9 0;");
        Due.is("none", x.votes(0), 0);
        x.ring(0, 2);
        x.ring(1, 9);
        x.ring(2, 3);
        x.open(2, false);
        Due.is("votes(0)", x.votes(0), 5);
        Due.is("votes(1)", x.votes(1), 9);
        Due.is("without BARNS", x.votes(2), 0);
        Due.sentence("`int votes(int c)`: VOTES. UNKNOWN.");
        for (int c : new int[] {Due.LEAST, -1, 3, Due.MOST}) {
            Due.is("votes(" + c + ")", x.votes(c), UNKNOWN);
        }
        x = Due.landOf(Due.eightBarns("t1 1 1;", "b0 40 40 9 0;"));
        for (int b = 0; b < 8; b++) {
            x.ring(b, 40);
        }
        Due.is("the most", x.votes(0), 320);
    }

    private static void elected() {
        Due.sentence("ELECTED: the COUNTY of most VOTES; of like ones the least.");
        SwallowCount x = Due.landOf("t4 1 1;b1 9 9 9 0;b3 9 9 9 0;b2 9 9 9 0;");
        Due.is("no VOTES at all", x.elected(), 0);
        x.ring(1, 2);
        Due.is("the last", x.elected(), 3);
        x.ring(2, 2);
        Due.is("of like ones", x.elected(), 2);
        x.ring(0, 1);
        Due.is("one less", x.elected(), 2);
        x.ring(0, 1);
        Due.is("of three like ones", x.elected(), 1);
        x.ring(1, 1);
        Due.is("one more", x.elected(), 3);
        Due.sentence("ELECTED; NONE: no COUNTIES.");
        Due.is("no COUNTIES", new SwallowCount().elected(), NONE);
        Due.is("COUNTIES without BARNS", Due.landOf("t2 1 1;").elected(), 0);
        x.land();
        Due.is("no COUNTIES any more", x.elected(), NONE);
    }

    private static void spring() {
        Due.sentence("SPRING: odds that of n YEARS (0 .. 30) none is wet, each by q of a hundred: "
            + "a BILLION times (100 less q) / 100 each (cut).");
        SwallowCount x = new SwallowCount();
        Due.is("spring(-1, 0)", x.spring(-1, 0), OUTSIDE);
        Due.is("spring(31, 0)", x.spring(31, 0), OUTSIDE);
        Due.is("spring(0, 50)", x.spring(0, 50), 1000000000);
        Due.is("spring(1, 50)", x.spring(1, 50), 500000000);
        Due.is("spring(30, 0)", x.spring(30, 0), 1000000000);
        // cut each time: 10 to the 9 halved 30 times is 0.93, 29 times 1.86
        Due.is("spring(29, 50)", x.spring(29, 50), 1);
        Due.is("spring(30, 50)", x.spring(30, 50), 0);
        // 941480149 if it were cut at the end alone
        Due.is("spring(6, 1)", x.spring(6, 1), 941480148);
        Due.sentence("SPRING (q 0 .. 100). OUTSIDE.");
        Due.is("spring(1, -1)", x.spring(1, -1), OUTSIDE);
        Due.is("spring(1, 101)", x.spring(1, 101), OUTSIDE);
        Due.is("spring(1, 0)", x.spring(1, 0), 1000000000);
        Due.is("spring(1, 1)", x.spring(1, 1), 990000000);
        Due.is("spring(1, 99)", x.spring(1, 99), 10000000);
        Due.is("spring(1, 100)", x.spring(1, 100), 0);
        Due.is("spring(0, 100)", x.spring(0, 100), 1000000000);
        Due.is("spring(0, 101)", x.spring(0, 101), OUTSIDE);
        Due.is("spring(0, -1)", x.spring(0, -1), OUTSIDE);
    }

    public static void main(String[] args) {
        nothingChanges();
        count();
        leaveBounds();
        leaveChooses();
        leaveOtherCounties();
        counters();
        gameAnswers();
        gameWithoutRest();
        gameByPools();
        gameOfSeats();
        leastMud();
        firstMud();
        mudForWhom();
        votes();
        elected();
        spring();
        Due.end();
    }
}
