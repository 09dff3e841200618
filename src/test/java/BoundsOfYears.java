/** Section 2 and promises 7 to 13: a test for each sentence that names a boundary of a YEAR or of what is done. */
public final class BoundsOfYears {
    private static final int UNKNOWN = Due.UNKNOWN, OUTSIDE = Due.OUTSIDE, NOT = Due.NOT, FULL = Due.FULL;

    private static void yearIs(SwallowCount x, int lost, int... nests) {
        int sum = 0;
        for (int n : nests) {
            sum += n;
        }
        Due.is("year(1)", x.year(1), sum);
        Due.nests(x, nests);
        Due.is("LOST", x.told(9), lost);
    }

    private static SwallowCount shutting(String text, int... shut) {
        SwallowCount x = Due.landOf(text);
        for (int b : shut) {
            x.open(b, false);
        }
        return x;
    }

    // ---- section 2

    private static void openAtFirst() {
        Due.sentence("A BARN is OPEN (all at first), or SHUT.");
        SwallowCount x = Due.landOf(Due.eightBarns("t1 1 1;", "b0 9 5 1 0;"));
        Due.is("told(7)", x.told(7), 0);
        for (int b = 0; b < 8; b++) {
            Due.is("SHUT", x.barn(b, 6), 0);
            Due.is("it was OPEN", x.open(b, false), 1);
            Due.is("SHUT", x.barn(b, 6), 1);
        }
        Due.is("all of 8 are SHUT", x.told(7), 255);
    }

    private static void kinds() {
        Due.sentence("KINDS of BARNS: 0 plain, 1 CAT, 2 GLAZED, 3 MILL.");
        // RAIN 7, 10 NESTS: 7 YOUNG; 3 taken and 4 YOUNG; none; 7 and 3
        yearIs(Due.landOf("t1 1 1;b0 40 10 0 0;b0 40 10 0 1;b0 40 10 0 2;b0 40 10 0 3;w7;"), 3, 17, 11, 10, 20);
    }

    private static void cats() {
        Due.sentence("(a) a CAT takes NESTS / 3 (LOST).");
        String text = "t1 1 1;b0 9 0 9 1;b0 9 1 9 1;b0 9 2 9 1;b0 9 3 9 1;b0 9 4 9 1;b0 9 5 9 1;b0 9 6 9 1;b0 40 40 9 1;w0;";
        yearIs(Due.landOf(text), 1 + 1 + 1 + 2 + 13, 0, 1, 2, 2, 3, 4, 4, 27);
        // other KINDS have none
        yearIs(Due.landOf("t1 1 1;b0 9 9 9 0;b0 9 9 9 2;b0 9 9 9 3;w0;"), 0, 9, 9, 9);
        // ahead of YOUNG: 9 - 3 + 6 * 7 / 10
        yearIs(Due.landOf("t1 1 1;b0 40 9 0 1;w7;"), 3, 10);
        // ahead of (b): what is left of a SHUT one is HOMELESS
        yearIs(shutting("t1 1 1;b0 9 9 9 1;b0 9 0 9 0;w0;", 0), 3, 0, 6);
    }

    private static void shutOnes() {
        Due.sentence("(b) of a SHUT BARN all NESTS are HOMELESS;");
        yearIs(shutting("t1 1 1;b0 40 40 0 0;b0 40 0 9 0;w7;", 0), 0, 0, 40);
        yearIs(shutting("t1 1 1;b0 40 1 0 0;b0 40 0 9 0;w7;", 0), 0, 0, 1);
        yearIs(shutting("t1 1 1;b0 40 0 0 0;b0 40 3 9 0;w7;", 0), 0, 0, 3);
        // OPEN again they are as others
        SwallowCount x = shutting("t1 1 1;b0 40 10 0 0;b0 40 0 9 0;w7;", 0);
        x.open(0, true);
        yearIs(x, 0, 17, 0);
    }

    private static void young() {
        Due.sentence("of an OPEN one there come as many YOUNG as NESTS times (r less FAR, 0 at least) / 10;");
        // RAIN 5: r less FAR is 0, 1 (9, 10, 19, 20 NESTS), -1, -4, 5
        String text = "t1 1 1;b0 40 30 5 0;b0 40 9 4 0;b0 40 10 4 0;b0 40 19 4 0;b0 40 20 4 0;b0 40 30 6 0;b0 40 40 9 0;b0 40 11 0 0;";
        yearIs(Due.landOf(text), 0, 30, 9, 11, 20, 22, 30, 40, 16);
        yearIs(Due.landOf("t1 1 1;b0 40 0 0 0;w7;"), 0, 0);
    }

    private static void mills() {
        Due.sentence("of a MILL half of that (cut) more;");
        // RAIN 5: YOUNG 0, 1, 1 (of 19), 2, 3: 0, 0, 0, 1, 1 more
        yearIs(Due.landOf("t1 1 1;b0 40 9 4 3;b0 40 10 4 3;b0 40 19 4 3;b0 40 20 4 3;b0 40 10 2 3;"), 0, 9, 11, 20, 23, 14);
    }

    private static void glazedOnes() {
        Due.sentence("of a GLAZED one none;");
        yearIs(Due.landOf("t1 1 1;b0 40 30 0 2;w7;"), 0, 30);
    }

    private static void aboveEaves() {
        Due.sentence("what is above EAVES then is HOMELESS.");
        // 10 and 5 YOUNG: EAVES for 15 are enough, those for 14 by one too few
        yearIs(Due.landOf("t2 1 1;b0 15 10 0 0;b1 14 10 0 0;"), 1, 15, 14);
        yearIs(Due.landOf("t1 1 1;b0 14 10 0 0;b0 1 0 9 0;"), 0, 14, 1);
    }

    private static void homelessOnes() {
        Due.sentence("(c) HOMELESS ones of each COUNTY, together, go to its OPEN BARNS with EAVES free, the lesser first;");
        // lesser than the one that they come from, and greater
        yearIs(shutting("t1 1 1;b0 5 0 9 0;b0 9 5 9 0;b0 5 0 9 0;w0;", 1), 0, 5, 0, 0);
        yearIs(shutting("t1 1 1;b0 5 0 9 0;b0 9 6 9 0;b0 5 0 9 0;w0;", 1), 0, 5, 0, 1);
        // those above EAVES, too
        yearIs(Due.landOf("t1 1 1;b0 1 0 9 0;b0 14 10 0 0;"), 0, 1, 14);
        yearIs(Due.landOf("t1 1 1;b0 2 0 9 0;b0 14 12 0 0;b0 9 0 9 0;"), 0, 2, 14, 2);
        // of two BARNS together
        yearIs(shutting("t1 1 1;b0 5 3 9 0;b0 5 4 9 0;b0 9 0 9 0;w0;", 0, 1), 0, 0, 0, 7);
        // SHUT, full, without EAVES, of another COUNTY: none of these takes any
        yearIs(shutting("t2 1 1;b0 9 4 9 0;b0 9 0 9 0;b0 2 2 9 0;b0 0 0 9 0;b1 9 0 9 0;b0 9 0 9 0;w0;", 0, 1),
            0, 0, 0, 2, 0, 0, 4);
        // each COUNTY has its own
        yearIs(shutting("t2 1 1;b1 9 4 9 0;b0 9 3 9 0;b1 9 0 9 0;b0 9 0 9 0;w0;", 0, 1), 0, 0, 0, 4, 3);
        yearIs(shutting("t4 1 1;b3 9 4 9 0;b2 9 3 9 0;b2 9 0 9 0;b3 9 0 9 0;w0;", 0, 1), 0, 0, 0, 3, 4);
    }

    private static void lostOnes() {
        Due.sentence("those that find none are LOST.");
        yearIs(shutting("t1 1 1;b0 9 5 9 0;b0 5 0 9 0;w0;", 0), 0, 0, 5);
        yearIs(shutting("t1 1 1;b0 9 5 9 0;b0 4 0 9 0;w0;", 0), 1, 0, 4);
        yearIs(shutting("t2 1 1;b0 9 5 9 0;b1 9 0 9 0;w0;", 0), 5, 0, 0);
        SwallowCount x = shutting(Due.eightBarns("t1 1 1;", "b0 40 40 9 0;"), 0, 1, 2, 3, 4, 5, 6, 7);
        yearIs(x, 320, 0, 0, 0, 0, 0, 0, 0, 0);
        yearIs(x, 320, 0, 0, 0, 0, 0, 0, 0, 0);
    }

    private static void muchRain() {
        Due.sentence("(d) r 8 or 9: each OPEN BARN with NESTS has one more (not above EAVES).");
        // no NESTS, one, one less than EAVES, full
        String barns = "t1 1 1;b0 9 0 9 2;b0 9 1 9 2;b0 9 8 9 2;b0 9 9 9 2;";
        yearIs(Due.landOf(barns + "w7;"), 0, 0, 1, 8, 9);
        yearIs(Due.landOf(barns + "w8;"), 0, 0, 2, 9, 9);
        yearIs(Due.landOf(barns + "w9;"), 0, 0, 2, 9, 9);
        yearIs(Due.landOf("t1 1 1;b0 0 0 9 2;w9;"), 0, 0);
        // behind (c): one that has NESTS by it has one more; one that is full by it has none, and nobody is LOST
        yearIs(shutting("t1 1 1;b0 9 1 9 0;b0 9 0 9 0;w8;", 0), 0, 0, 2);
        yearIs(shutting("t1 1 1;b0 9 1 9 0;b0 9 8 9 0;w8;", 0), 0, 0, 9);
        // a SHUT one has none
        yearIs(shutting("t1 1 1;b0 9 5 9 0;w9;", 0), 5, 0);
    }

    private static void ringsOfAYear() {
        Due.sentence("(e) RINGS are no more than NESTS.");
        for (int rings = 5; rings <= 9; rings++) {
            SwallowCount x = Due.landOf("t1 1 1;b0 9 9 9 1;w0;");
            x.ring(0, rings);
            x.year(1);
            Due.is("RINGS of 6 NESTS", x.barn(0, 5), Math.min(rings, 6));
        }
        // behind (d): 9 - 3 + 1
        SwallowCount x = Due.landOf("t1 1 1;b0 9 9 9 1;w8,9;");
        x.ring(0, 9);
        x.year(1);
        Due.is("RINGS of 7 NESTS", x.barn(0, 5), 7);
        x = shutting("t1 1 1;b0 9 9 9 0;w0,9;", 0);
        x.ring(0, 9);
        x.year(1);
        Due.is("RINGS of no NESTS", x.barn(0, 5), 0);
        x = Due.landOf("t1 1 1;b0 40 6 0 0;w7;");
        x.ring(0, 6);
        x.year(1);
        Due.is("more NESTS bring no RINGS", x.barn(0, 5), 6);
    }

    private static void yearsAreCounted() {
        Due.sentence("YEARS are counted.");
        SwallowCount x = Due.landOf("t1 1 1;");
        Due.is("none", x.told(5), 0);
        x.year(1);
        Due.is("one", x.told(5), 1);
        x.year(99);
        Due.is("99 more", x.told(5), 100);
        x.drift(99);
        Due.is("BY DRAWS, too", x.told(5), 199);
    }

    private static void soulsSeatsMen() {
        Due.sentence("SOULS of a COUNTY: NESTS of its BARNS (SHUT ones, too). SEATS: SOULS / S. MEN: SOULS / M.");
        // SOULS 4, 5, 9, 10
        SwallowCount x = shutting("t4 5 3;b0 9 4 9 0;b1 9 5 9 0;b2 9 9 9 0;b3 9 9 9 0;b3 9 1 9 0;", 0, 4);
        int[][] want = {{4, 0, 1}, {5, 1, 1}, {9, 1, 3}, {10, 2, 3}};
        for (int c = 0; c < 4; c++) {
            for (int what = 0; what < 3; what++) {
                Due.is("count(" + c + ", 0, " + what + ")", x.count(c, 0, what), want[c][what]);
            }
        }
        Due.is("a COUNTY without BARNS", Due.landOf("t2 1 1;b0 9 4 9 0;").count(1, 0, 0), 0);
        x = Due.landOf(Due.eightBarns("t1 30 1;", "b0 40 40 9 0;"));
        Due.is("the most SOULS", x.count(0, 0, 0), 320);
        Due.is("their SEATS", x.count(0, 0, 1), 10);
        Due.is("their MEN", x.count(0, 0, 2), 320);
    }

    private static void ringsOfMovedNests() {
        Due.sentence("RINGS of a BARN: no more than its NESTS (if NESTS are moved away, too).");
        SwallowCount x = Due.landOf("t1 1 1;b0 9 5 9 0;b0 9 0 9 0;");
        x.ring(0, 3);
        x.move(0, 1, 2);
        Due.is("as many as NESTS", x.barn(0, 5), 3);
        x.move(0, 1, 1);
        Due.is("one less", x.barn(0, 5), 2);
        x.move(1, 0, 3);
        Due.is("those are gone", x.barn(0, 5), 2);
        x.move(0, 1, 5);
        Due.is("no NESTS", x.barn(0, 5), 0);
        Due.is("nor there", x.barn(1, 5), 0);
    }

    // ---- promises 7 to 13

    /** A land that has seen so many YEARS (a multiple of 90). */
    private static SwallowCount old(int years) {
        SwallowCount x = Due.landOf("t1 1 1;b0 9 5 9 2;w0;");
        for (int k = 0; k < years / 90; k++) {
            x.year(90);
        }
        Due.is("YEARS", x.told(5), years);
        return x;
    }

    private static void year() {
        Due.sentence("n YEARS (1 .. 99), RAIN as told: NESTS of all. OUTSIDE, NOT: no COUNTIES;");
        SwallowCount x = Due.landOf("t1 1 1;b0 40 10 0 0;b0 40 3 9 0;w7;");
        for (int n : new int[] {Due.LEAST, -1, 0, 100, Due.MOST}) {
            Due.is("year(" + n + ")", x.year(n), OUTSIDE);
        }
        Due.is("no YEAR was", x.told(5), 0);
        Due.is("year(1)", x.year(1), 20);
        Due.is("year(99)", x.year(99), 80);
        Due.is("told(5)", x.told(5), 100);
        Due.is("no COUNTIES", new SwallowCount().year(1), NOT);
        Due.is("no COUNTIES, 99", new SwallowCount().year(99), NOT);
        Due.is("COUNTIES without BARNS", Due.landOf("t1 1 1;").year(1), 0);
    }

    private static void yearsAbove9000() {
        Due.sentence("FULL: YEARS are above 9000 as it is called (n may pass that).");
        SwallowCount x = old(9000);
        Due.is("year(99) at 9000", x.year(99), 5);
        Due.is("told(5)", x.told(5), 9099);
        Due.is("year(1) at 9099", x.year(1), FULL);
        Due.is("drift(1) at 9099", x.drift(1), FULL);
        x = old(9000);
        Due.is("year(1) at 9000", x.year(1), 5);
        Due.is("year(1) at 9001", x.year(1), FULL);
        Due.is("drift(1) at 9001", x.drift(1), FULL);
        Due.is("told(5)", x.told(5), 9001);
        x.undo();
        // of 99 DRAWS more than 4 are 8 or 9, and each of these brings one more, up to EAVES
        Due.is("drift(99) at 9000 again", x.drift(99), 9);
        Due.is("told(5)", x.told(5), 9099);
        Due.is("drift(1)", x.drift(1), FULL);
        Due.is("others go on", x.mud(0, 1), 8);
        Due.is("count goes on", x.count(0, 60, 0), 9);
    }

    private static void open() {
        Due.sentence("A BARN is OPEN from now on (is), or SHUT: 1 it was OPEN, 0 not. UNKNOWN.");
        SwallowCount x = Due.landOf(Due.eightBarns("t1 1 1;", "b0 9 5 9 0;"));
        Due.is("OPEN again", x.open(7, true), 1);
        Due.is("SHUT", x.open(7, false), 1);
        Due.is("told(7)", x.told(7), 128);
        Due.is("SHUT again", x.open(7, false), 0);
        Due.is("told(7)", x.told(7), 128);
        Due.is("OPEN", x.open(7, true), 0);
        Due.is("told(7)", x.told(7), 0);
        Due.is("BARN 0", x.open(0, false), 1);
        Due.is("told(7)", x.told(7), 1);
        for (int b : new int[] {Due.LEAST, -1, 8, 31, 32, 39, Due.MOST}) {
            Due.is("open(" + b + ", false)", x.open(b, false), UNKNOWN);
            Due.is("open(" + b + ", true)", x.open(b, true), UNKNOWN);
        }
        Due.is("told(7)", x.told(7), 1);
    }

    private static void move() {
        Due.sentence("n NESTS (1 .. 40) are moved: NESTS of the second BARN. UNKNOWN, OUTSIDE,");
        SwallowCount x = Due.landOf("t1 1 1;b0 40 40 9 0;b0 40 0 9 0;");
        for (int n : new int[] {Due.LEAST, -1, 0, 41, Due.MOST}) {
            Due.is("move(0, 1, " + n + ")", x.move(0, 1, n), OUTSIDE);
        }
        Due.nests(x, 40, 0);
        Due.is("move(0, 1, 1)", x.move(0, 1, 1), 1);
        Due.is("move(1, 0, 1)", x.move(1, 0, 1), 40);
        Due.is("move(0, 1, 40)", x.move(0, 1, 40), 40);
        Due.nests(x, 0, 40);
        for (int b : new int[] {Due.LEAST, -1, 2, Due.MOST}) {
            Due.is("move(" + b + ", 0, 1)", x.move(b, 0, 1), UNKNOWN);
            Due.is("move(1, " + b + ", 1)", x.move(1, b, 1), UNKNOWN);
        }
        Due.is("one twice", x.move(1, 1, 1), UNKNOWN);
    }

    private static void moveNotSo() {
        Due.sentence("NOT: there are not so many, EAVES there are too few.");
        SwallowCount x = Due.landOf("t2 1 1;b0 40 7 9 0;b1 10 5 9 0;b1 40 0 9 0;");
        Due.is("8 of 7", x.move(0, 2, 8), NOT);
        Due.is("1 of none", x.move(2, 0, 1), NOT);
        Due.is("6 to EAVES for 5 more", x.move(0, 1, 6), NOT);
        Due.nests(x, 7, 5, 0);
        Due.is("5 to EAVES for 5 more", x.move(0, 1, 5), 10);
        Due.is("1 to full ones", x.move(0, 1, 1), NOT);
        Due.is("2 of 2", x.move(0, 2, 2), 2);
        Due.nests(x, 0, 10, 2);
        x.open(2, false);
        Due.is("a SHUT one has EAVES, too", x.move(1, 2, 10), 12);
        Due.is("1 to no EAVES", Due.landOf("t1 1 1;b0 5 5 9 0;b0 0 0 9 0;").move(0, 1, 1), NOT);
    }

    private static void mud() {
        Due.sentence("MUD is laid (n 1 .. 9): FAR of a BARN. UNKNOWN, OUTSIDE.");
        SwallowCount x = Due.landOf("t1 1 1;b0 9 9 9 0;b0 9 9 3 0;");
        for (int n : new int[] {Due.LEAST, -1, 0, 10, Due.MOST}) {
            Due.is("mud(0, " + n + ")", x.mud(0, n), OUTSIDE);
        }
        Due.is("mud(0, 1)", x.mud(0, 1), 8);
        Due.is("mud(0, 8)", x.mud(0, 8), 0);
        Due.is("mud(0, 1) more", x.mud(0, 1), 0);
        Due.is("mud(-1, 1)", x.mud(-1, 1), UNKNOWN);
        Due.is("mud(2, 1)", x.mud(2, 1), UNKNOWN);
        Due.sentence("MUD: each brings FAR of a BARN 1 less (0 at least)");
        Due.is("9 where it is FAR by 3", x.mud(1, 9), 0);
        Due.is("barn(1, 3)", x.barn(1, 3), 0);
        Due.is("9 where it is FAR by 9", Due.landOf("t1 1 1;b0 9 9 9 0;").mud(0, 9), 0);
        Due.is("8 where it is FAR by 9", Due.landOf("t1 1 1;b0 9 9 9 0;").mud(0, 8), 1);
    }

    private static void ring() {
        Due.sentence("n RINGS more (1 .. 40): RINGS of a BARN. UNKNOWN, OUTSIDE, NOT: there would be more than NESTS.");
        SwallowCount x = Due.landOf("t1 1 1;b0 40 40 9 0;b0 9 6 9 0;b0 9 0 9 0;");
        for (int n : new int[] {Due.LEAST, -1, 0, 41, Due.MOST}) {
            Due.is("ring(0, " + n + ")", x.ring(0, n), OUTSIDE);
        }
        Due.is("ring(0, 40)", x.ring(0, 40), 40);
        Due.is("ring(0, 1) more", x.ring(0, 1), NOT);
        Due.is("ring(1, 7) of 6", x.ring(1, 7), NOT);
        Due.is("ring(1, 1)", x.ring(1, 1), 1);
        Due.is("ring(1, 6) more", x.ring(1, 6), NOT);
        Due.is("ring(1, 5) more", x.ring(1, 5), 6);
        Due.is("ring(2, 1) of none", x.ring(2, 1), NOT);
        Due.is("ring(-1, 1)", x.ring(-1, 1), UNKNOWN);
        Due.is("ring(3, 1)", x.ring(3, 1), UNKNOWN);
        Due.is("told(10)", x.told(10), 46);
    }

    private static void drift() {
        Due.sentence("n YEARS BY DRAWS (1 .. 99): NESTS of all. OUTSIDE, NOT: no COUNTIES;");
        SwallowCount x = Due.landOf("t1 1 1;b0 40 10 0 0;w9;");
        for (int n : new int[] {Due.LEAST, -1, 0, 100, Due.MOST}) {
            Due.is("drift(" + n + ")", x.drift(n), OUTSIDE);
        }
        Due.is("no YEAR was", x.told(5), 0);
        Due.is("no DRAW was", x.seed(0), 0);
        // the first DRAW from 0 is 0: no YOUNG
        Due.is("drift(1)", x.drift(1), 10);
        Due.is("drift(99)", x.drift(99), 40);
        Due.is("told(5)", x.told(5), 100);
        Due.is("no COUNTIES", new SwallowCount().drift(1), NOT);
        Due.is("COUNTIES without BARNS", Due.landOf("t1 1 1;").drift(99), 0);
    }

    private static long next(long seed) {
        return (seed * 1103515245L + 12345L) % 2147483648L;
    }

    private static void draws() {
        Due.sentence("each DRAW it becomes it times 1103515245 and 12345, left over by 2 to the 31; the DRAW of n is it / 65536, left over by n");
        long[] seeds = {0, 1, 2, 3, 12345, 65535, 65536, 1073741823, 1073741824, 2147483646, 2147483647};
        for (long seed : seeds) {
            // no YOUNG: an OPEN BARN with NESTS has one more by RAIN 8 or 9; a second one tells RAIN by its YOUNG
            SwallowCount x = Due.landOf("t2 1 1;b0 40 10 9 0;b1 40 10 0 0;w0;");
            x.seed((int) seed);
            int rain = (int) (next(seed) / 65536 % 10);
            int more = rain >= 8 ? 1 : 0;
            Due.is("drift(1) from " + seed, x.drift(1), 20 + rain + 2 * more);
            Due.nests(x, 10 + more, 10 + rain + more);
            Due.is("THE SEED behind " + seed, x.seed(0), (int) next(seed));
        }
        Due.sentence("n YEARS, each of RAIN a DRAW of 10.");
        SwallowCount x = Due.landOf("t1 1 1;");
        long seed = 2147483647;
        x.seed((int) seed);
        x.drift(99);
        for (int k = 0; k < 99; k++) {
            seed = next(seed);
        }
        Due.is("THE SEED behind 99 DRAWS", x.seed(0), (int) seed);
    }

    private static void undo() {
        Due.sentence("The latest is undone: how many more can be. NOT: none.");
        SwallowCount x = Due.landOf("t1 1 1;b0 40 10 5 0;b0 40 10 5 0;w8;");
        Due.is("none", x.undo(), NOT);
        x.mud(0, 1);
        x.mud(0, 1);
        Due.is("undo()", x.undo(), 1);
        Due.is("FAR", x.barn(0, 3), 4);
        Due.is("undo()", x.undo(), 0);
        Due.is("FAR", x.barn(0, 3), 5);
        Due.is("none any more", x.undo(), NOT);
        Due.is("FAR", x.barn(0, 3), 5);
    }

    private static void whatIsUndone() {
        Due.sentence("UNDONE: the latest of year(), open(), move(), mud(), ring(), drift() that was not refused");
        String text = "t1 1 1;b0 40 10 5 0;b0 40 10 5 0;w8;";
        String[] names = {"year", "open", "move", "mud", "ring", "drift", "open of an OPEN one", "mud beyond 0"};
        Due.Script[] deeds = {x -> x.year(3), x -> x.open(1, false), x -> x.move(0, 1, 2), x -> x.mud(0, 2), x -> x.ring(1, 5),
            x -> x.drift(2), x -> x.open(0, true), x -> x.mud(0, 9)};
        for (int k = 0; k < deeds.length; k++) {
            SwallowCount x = Due.landOf(text);
            deeds[k].play(x);
            Due.is(names[k] + " can be undone", x.told(14), 1);
            Due.is("undo() of " + names[k], x.undo(), 0);
            x.seed(0);
            Due.sameFromNowOn(names[k] + " and undo()", x, Due.landOf(text));
        }
        // refused ones, and calls of another sort, are none of these
        SwallowCount x = Due.landOf(text);
        x.mud(0, 2);
        x.year(0);
        x.open(2, true);
        x.move(0, 1, 11);
        x.mud(0, 10);
        x.ring(0, 11);
        x.drift(100);
        x.seed(3);
        x.see(0, 1);
        x.rough(1, 1);
        x.write(0, 1);
        x.feed(32);
        Due.is("told(14)", x.told(14), 1);
        Due.is("undo() of mud", x.undo(), 0);
        Due.is("FAR", x.barn(0, 3), 5);
    }

    private static void twentyAreKept() {
        Due.sentence("(20 at most are kept, the oldest are lost)");
        for (int deeds : new int[] {19, 20, 21, 40, 41}) {
            SwallowCount x = Due.landOf("t1 1 1;b0 40 40 5 0;b0 40 0 5 0;");
            for (int k = 1; k <= deeds; k++) {
                x.move(k <= 40 ? 0 : 1, k <= 40 ? 1 : 0, 1);
                Due.is("told(14)", x.told(14), Math.min(k, 20));
            }
            int kept = Math.min(deeds, 20);
            for (int k = kept - 1; k >= 0; k--) {
                Due.is("undo()", x.undo(), k);
            }
            Due.is("undo() of what is lost", x.undo(), NOT);
            Due.is("what is lost stays done", x.barn(1, 2), deeds - kept);
        }
        // around the end of what is kept: undone ones make room
        SwallowCount x = Due.landOf("t1 1 1;b0 40 40 5 0;");
        for (int k = 0; k < 25; k++) {
            x.ring(0, 1);
        }
        for (int k = 0; k < 10; k++) {
            x.undo();
        }
        for (int k = 0; k < 5; k++) {
            x.ring(0, 2);
        }
        Due.is("told(14)", x.told(14), 15);
        Due.is("RINGS", x.told(10), 25);
        for (int k = 14; k >= 0; k--) {
            Due.is("undo()", x.undo(), k);
            Due.is("RINGS", x.told(10), k >= 10 ? 15 + 2 * (k - 10) : 5 + k);
        }
        Due.is("undo()", x.undo(), NOT);
    }

    private static void whatComesBack() {
        Due.sentence("NESTS, RINGS, who is SHUT, FAR, LOST ones, YEARS are as ahead of it; THE SEED stays.");
        SwallowCount x = Due.landOf("t1 1 1;b0 40 10 5 1;b0 40 10 5 0;w8;");
        x.ring(0, 9);
        x.open(1, false);
        x.mud(0, 1);
        x.seed(44);
        x.drift(3);
        int seed = x.seed(5);
        Due.is("undo()", x.undo(), 3);
        Due.told(x, 1, 1, 1, 2, 0, 0, 8, 2, 20, 0, 9, 0, 0, 0, 3);
        Due.barn(x, 0, 0, 40, 10, 4, 1, 9, 0);
        Due.is("THE SEED", x.seed(44), 5);
        x.drift(3);
        Due.is("the same DRAWS", x.seed(0), seed);
    }

    public static void main(String[] args) {
        openAtFirst();
        kinds();
        cats();
        shutOnes();
        young();
        mills();
        glazedOnes();
        aboveEaves();
        homelessOnes();
        lostOnes();
        muchRain();
        ringsOfAYear();
        yearsAreCounted();
        soulsSeatsMen();
        ringsOfMovedNests();
        year();
        yearsAbove9000();
        open();
        move();
        moveNotSo();
        mud();
        ring();
        drift();
        draws();
        undo();
        whatIsUndone();
        twentyAreKept();
        whatComesBack();
        Due.end();
    }
}
