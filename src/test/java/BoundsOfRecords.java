/** Section 3, promises 22 to 32: a test for each sentence that names a boundary of what was seen, of draws, of images. */
public final class BoundsOfRecords {
    private static final int NONE = Due.NONE, UNKNOWN = Due.UNKNOWN, OUTSIDE = Due.OUTSIDE, NOT = Due.NOT, FULL = Due.FULL;

    // ---- SEEN, MOVED

    private static void see() {
        Due.sentence("SEEN (8 at most): a BARN had so many NESTS (0 .. 40)");
        SwallowCount x = Due.landOf("t1 1 1;b0 9 9 9 0;b0 9 9 9 0;");
        Due.is("nothing SEEN", x.told(11), 0);
        for (int k = 1; k <= 8; k++) {
            Due.is("see", x.see(k % 2, k == 1 ? 0 : 40), k);
        }
        Due.is("a ninth", x.see(0, 0), FULL);
        Due.is("told(11)", x.told(11), 8);
        x.tear();
        Due.is("there is room again", x.see(0, 0), 1);
        Due.sentence("SEEN: how much. UNKNOWN, OUTSIDE, FULL (8).");
        for (int n : new int[] {Due.LEAST, -1, 41, Due.MOST}) {
            Due.is("see(0, " + n + ")", x.see(0, n), OUTSIDE);
        }
        for (int b : new int[] {Due.LEAST, -1, 2, Due.MOST}) {
            Due.is("see(" + b + ", 0)", x.see(b, 0), UNKNOWN);
        }
        Due.is("told(11)", x.told(11), 1);
    }

    private static void seenIsOfTheNextYear() {
        Due.sentence("behind the next YEAR from when that is asked (RAIN as told).");
        // RAIN 9, then 0: of 10 NESTS 9 stay by night, and have 8 YOUNG and one more
        SwallowCount x = Due.landOf("t2 1 1;b0 40 10 0 0;b1 40 10 9 2;w9,0;");
        x.see(0, 18);
        Due.is("how many", x.moved(NONE), 1);
        Due.is("the first", x.moved(0), 11);
        x.year(1);
        // 20 NESTS now, RAIN 0: two are moved away
        Due.is("a YEAR on", x.moved(0), 12);
        x.year(1);
        // RAIN 9 again: 40 at least, whoever is moved
        Due.is("around", x.moved(NONE), 0);
    }

    private static void oneToFive() {
        Due.sentence("MOVED: one to five NESTS moved now by night from one BARN to another one (as by move()) "
            + "by which all that is SEEN is so: how many ways;");
        String text = "t1 1 1;b0 40 10 9 0;b0 40 10 9 0;w0;";
        for (int n = 1; n <= 5; n++) {
            SwallowCount x = Due.landOf(text);
            x.see(1, 10 + n);
            Due.is("one way for " + n, x.moved(NONE), 1);
            Due.is("it", x.moved(0), 10 + n);
        }
        for (int n : new int[] {10, 16, 4}) {
            SwallowCount x = Due.landOf(text);
            x.see(1, n);
            Due.is("none or six would have been moved", x.moved(NONE), 0);
        }
        // there are not so many, EAVES there are too few: as by move()
        SwallowCount x = Due.landOf("t1 1 1;b0 40 3 9 0;b0 12 10 9 0;w0;");
        Due.is("2 to EAVES for 2 more, 5 back", x.moved(NONE), 7);
        Due.is("moved(1)", x.moved(1), 12);
        Due.is("moved(2)", x.moved(2), 101);
        x = Due.landOf("t1 1 1;b0 40 3 9 0;b0 40 0 9 0;w0;");
        Due.is("3 of 3, none of none", x.moved(NONE), 3);
        // RINGS and who is SHUT are as by move(), too: what is moved to a SHUT one is HOMELESS, and comes back
        x = Due.landOf("t1 1 1;b0 40 3 9 0;b0 40 0 9 0;w0;");
        x.open(1, false);
        x.see(0, 3);
        Due.is("they came back", x.moved(NONE), 3);
        // all that is SEEN
        x = Due.landOf(text);
        x.see(1, 12);
        x.see(0, 8);
        Due.is("both", x.moved(NONE), 1);
        x.see(0, 9);
        Due.is("not all three", x.moved(NONE), 0);
    }

    private static void waysOfMoving() {
        Due.sentence("the i-th (100 times from, 10 times to, how many; rising); NONE.");
        // nothing SEEN: all ways fit, 8 times 7 times 5 at most
        SwallowCount x = Due.landOf(Due.eightBarns("t1 1 1;", "b0 40 20 9 0;") + "w0;");
        Due.is("how many", x.moved(NONE), 280);
        Due.is("the first", x.moved(0), 11);
        Due.is("the fifth", x.moved(4), 15);
        Due.is("the sixth", x.moved(5), 21);
        Due.is("of BARN 1", x.moved(35), 101);
        Due.is("the last", x.moved(279), 765);
        Due.is("none behind it", x.moved(280), NONE);
        Due.sentence("MOVED: i = NONE how many, else the i-th; NONE (i below NONE, too).");
        for (int i : new int[] {Due.LEAST, -3, -2, 281, Due.MOST}) {
            Due.is("moved(" + i + ")", x.moved(i), NONE);
        }
        int before = 0;
        for (int i = 0; i < 280; i += 9) {
            int way = x.moved(i);
            Due.is("rising", way > before ? 1 : 0, 1);
            before = way;
        }
        Due.is("no BARNS: how many", new SwallowCount().moved(NONE), 0);
        Due.is("no BARNS: the first", new SwallowCount().moved(0), NONE);
        Due.is("one BARN: how many", Due.landOf("t1 1 1;b0 9 5 9 0;").moved(NONE), 0);
        Due.is("one BARN: the first", Due.landOf("t1 1 1;b0 9 5 9 0;").moved(0), NONE);
    }

    // ---- ROUGH counts

    private static void rough() {
        Due.sentence("ROUGH counts (8 at most): a SET of BARNS had so many NESTS together (0 .. 320) now.");
        SwallowCount x = Due.landOf("t1 1 1;b0 9 9 9 0;b0 9 9 9 0;b0 9 9 9 0;");
        Due.is("none", x.told(12), 0);
        int[] sets = {0, 1, 2, 4, 7, 7, 3, 5};
        for (int k = 0; k < 8; k++) {
            Due.is("rough", x.rough(sets[k], k == 4 ? 320 : k == 5 ? 0 : 9), k + 1);
        }
        Due.is("a ninth", x.rough(1, 0), FULL);
        Due.is("told(12)", x.told(12), 8);
        x.tear();
        Due.is("there is room again", x.rough(1, 0), 1);
        Due.sentence("A ROUGH count: how many. UNKNOWN, OUTSIDE, FULL (8).");
        for (int n : new int[] {Due.LEAST, -1, 321, Due.MOST}) {
            Due.is("rough(7, " + n + ")", x.rough(7, n), OUTSIDE);
        }
        for (int set : new int[] {Due.LEAST, -8, -1, 8, 9, 256, 1 << 30, Due.MOST}) {
            Due.is("rough(" + set + ", 0)", x.rough(set, 0), UNKNOWN);
        }
        Due.is("told(12)", x.told(12), 1);
        x = Due.landOf(Due.eightBarns("t1 1 1;", "b0 9 9 9 0;"));
        Due.is("all of 8", x.rough(255, 320), 1);
        Due.is("a ninth BARN", x.rough(256, 0), UNKNOWN);
        Due.is("a ninth BARN among others", x.rough(511, 0), UNKNOWN);
    }

    private static void spanOfEaves() {
        Due.sentence("SPAN of a BARN: the least and the most NESTS (0 to EAVES) that it can have by each ROUGH count of it alone, "
            + "others there having 0 to EAVES: what = 0 least, 1 most; NONE: none fits.");
        SwallowCount x = Due.landOf("t1 1 1;b0 10 1 9 0;b0 20 1 9 0;b0 0 0 9 0;b0 40 1 9 0;");
        int[] eaves = {10, 20, 0, 40};
        for (int b = 0; b < 4; b++) {
            Due.is("no count: least", x.span(b, 0), 0);
            Due.is("no count: most", x.span(b, 1), eaves[b]);
        }
        // the SET, NESTS, then least and most of BARNS 0, 1
        int[][] rows = {{3, 0, 0, 0, 0, 0}, {3, 1, 0, 1, 0, 1}, {3, 10, 0, 10, 0, 10}, {3, 11, 0, 10, 1, 11}, {3, 20, 0, 10, 10, 20},
            {3, 21, 1, 10, 11, 20}, {3, 29, 9, 10, 19, 20}, {3, 30, 10, 10, 20, 20}, {3, 31, NONE, NONE, NONE, NONE},
            {3, 320, NONE, NONE, NONE, NONE}, {7, 30, 10, 10, 20, 20}, {7, 31, NONE, NONE, NONE, NONE},
            {1, 10, 10, 10, 0, 20}, {1, 11, NONE, NONE, 0, 20}, {1, 0, 0, 0, 0, 20}, {0, 9, 0, 10, 0, 20}, {8, 5, 0, 10, 0, 20}};
        for (int[] row : rows) {
            x.tear();
            x.rough(row[0], row[1]);
            for (int k = 0; k < 4; k++) {
                Due.is("rough(" + row[0] + ", " + row[1] + "): span(" + k / 2 + ", " + k % 2 + ")", x.span(k / 2, k % 2), row[2 + k]);
            }
        }
        x.tear();
        // two that meet in one number, two that miss one another by one
        x.rough(3, 25);
        Due.is("least", x.span(0, 0), 5);
        x.rough(9, 5);
        Due.is("least", x.span(0, 0), 5);
        Due.is("most", x.span(0, 1), 5);
        x.rough(9, 4);
        Due.is("none fits", x.span(0, 0), NONE);
        Due.is("none fits", x.span(0, 1), NONE);
        Due.is("others go by their own", x.span(1, 0), 15);
        // one above the other by one, in the other order
        x.tear();
        x.rough(1, 6);
        x.rough(3, 27);
        Due.is("none fits", x.span(0, 0), NONE);
    }

    private static void spanRefusals() {
        Due.sentence("SPAN; NONE. UNKNOWN, OUTSIDE.");
        SwallowCount x = Due.landOf("t1 1 1;b0 10 1 9 0;");
        Due.is("span(0, -1)", x.span(0, -1), OUTSIDE);
        Due.is("span(0, 2)", x.span(0, 2), OUTSIDE);
        Due.is("span(-1, 0)", x.span(-1, 0), UNKNOWN);
        Due.is("span(1, 0)", x.span(1, 0), UNKNOWN);
        x.rough(1, 11);
        Due.is("none fits", x.span(0, 1), NONE);
        Due.is("OUTSIDE ahead of NONE", x.span(0, 2), OUTSIDE);
    }

    private static void uncounted() {
        Due.sentence("UNCOUNTED: BARNS whose least and most are not the same (a SET; those without any that fits, too).");
        SwallowCount x = Due.landOf(Due.eightBarns("t1 1 1;", "b0 9 9 9 0;"));
        Due.is("all of 8", x.uncounted(), 255);
        x.rough(255, 72);
        Due.is("none: all are full", x.uncounted(), 0);
        x.tear();
        x.rough(255, 0);
        Due.is("none: all are empty", x.uncounted(), 0);
        x.rough(255, 1);
        Due.is("0 fits each count alone", x.uncounted(), 0);
        x.rough(255, 72);
        Due.is("none fits", x.uncounted(), 255);
        x.tear();
        x.rough(128, 9);
        Due.is("all but the last", x.uncounted(), 127);
        x.rough(1, 5);
        Due.is("nor the first", x.uncounted(), 126);
        x.rough(3, 15);
        // BARN 0 would have 6 at least, and has 5
        Due.is("the first has none that fits", x.uncounted(), 127);
        Due.is("no EAVES: it is counted", Due.landOf("t1 1 1;b0 0 0 9 0;").uncounted(), 0);
        Due.sentence("`int uncounted()`: UNCOUNTED.");
        Due.is("no COUNTIES", new SwallowCount().uncounted(), 0);
        Due.is("no BARNS", Due.landOf("t1 1 1;").uncounted(), 0);
    }

    // ---- THE BOOK

    private static void write() {
        Due.sentence("An entry behind THE BOOK (0 .. 320): how many. UNKNOWN, OUTSIDE, FULL (15).");
        SwallowCount x = Due.landOf("t2 1 1;b0 9 9 9 0;");
        for (int n : new int[] {Due.LEAST, -1, 321, Due.MOST}) {
            Due.is("write(0, " + n + ")", x.write(0, n), OUTSIDE);
        }
        for (int c : new int[] {Due.LEAST, -1, 2, Due.MOST}) {
            Due.is("write(" + c + ", 0)", x.write(c, 0), UNKNOWN);
        }
        Due.is("none", x.told(13), 0);
        for (int k = 1; k <= 15; k++) {
            Due.is("write", x.write(k % 2, k == 1 ? 320 : 0), k);
        }
        Due.is("a sixteenth", x.write(0, 0), FULL);
        Due.is("told(13)", x.told(13), 15);
        x.tear();
        Due.is("there is room again", x.write(0, 0), 1);
    }

    private static void judge() {
        Due.sentence("THE BOOK (15 at most) tells SOULS of COUNTIES: WRONG: the first that is otherwise now; NONE.");
        SwallowCount x = Due.landOf("t3 1 1;b0 9 4 9 0;b1 9 5 9 0;b0 9 2 9 0;");
        for (int k = 0; k < 14; k++) {
            x.write(k % 3, new int[] {6, 5, 0}[k % 3]);
        }
        Due.is("all are right", x.judge(), NONE);
        x.write(0, 7);
        Due.is("the last is one too many", x.judge(), 14);
        x.move(0, 1, 1);
        Due.is("otherwise now: the first", x.judge(), 0);
        x.undo();
        Due.is("as it was", x.judge(), 14);
        x.tear();
        x.write(0, 6);
        x.write(0, 5);
        x.write(0, 7);
        Due.is("the first of two", x.judge(), 1);
        x.tear();
        x.write(2, 1);
        Due.is("one too many of none", x.judge(), 0);
        x = Due.landOf(Due.eightBarns("t1 1 1;", "b0 40 40 9 0;"));
        x.write(0, 320);
        Due.is("the most", x.judge(), NONE);
        x.write(0, 319);
        Due.is("one less", x.judge(), 1);
        Due.sentence("`int judge()`: WRONG; NONE.");
        Due.is("no COUNTIES", new SwallowCount().judge(), NONE);
        Due.is("an empty BOOK", Due.landOf("t1 1 1;b0 9 4 9 0;").judge(), NONE);
        x.tear();
        Due.is("an empty BOOK again", x.judge(), NONE);
    }

    private static void tear() {
        Due.sentence("Nothing SEEN, no ROUGH counts, no BOOK: how much all three had.");
        SwallowCount x = Due.landOf("t1 1 1;b0 9 9 9 0;b0 9 0 9 0;w0;");
        Due.is("nothing", x.tear(), 0);
        for (int k = 0; k < 15; k++) {
            x.see(0, 1);
            x.rough(1, 1);
            x.write(0, 1);
        }
        Due.is("full", x.tear(), 31);
        Due.told(x, 1, 1, 1, 2, 0, 0, 0, 0, 9, 0, 0, 0, 0, 0, 0);
        Due.is("moved(NONE)", x.moved(NONE), 5);
        Due.is("span(0, 1)", x.span(0, 1), 9);
        Due.is("judge()", x.judge(), NONE);
        Due.is("nothing any more", x.tear(), 0);
        x.see(0, 1);
        Due.is("SEEN alone", x.tear(), 1);
        x.rough(1, 1);
        Due.is("ROUGH alone", x.tear(), 1);
        x.write(0, 1);
        Due.is("THE BOOK alone", x.tear(), 1);
    }

    // ---- draws, images

    private static void seed() {
        Due.sentence("THE SEED becomes v (0 .. 2147483647): what it was. OUTSIDE.");
        SwallowCount x = new SwallowCount();
        Due.is("seed(-1)", x.seed(-1), OUTSIDE);
        Due.is("seed(the least)", x.seed(Due.LEAST), OUTSIDE);
        Due.sentence("BY DRAWS: THE SEED (0 at first:");
        Due.is("a new one", new SwallowCount().seed(5), 0);
        Due.is("refused ones leave it", x.seed(2147483647), 0);
        Due.sentence("THE SEED becomes v (0 .. 2147483647): what it was. OUTSIDE.");
        Due.is("seed(-1)", x.seed(-1), OUTSIDE);
        Due.is("the most", x.seed(0), 2147483647);
        Due.is("0", x.seed(1), 0);
        Due.is("1", x.seed(1), 1);
    }

    private static SwallowCount busy() {
        SwallowCount x = Due.landOf("t1 1 1;b0 40 10 5 1;b0 40 10 5 0;w8;");
        x.year(1);
        x.ring(0, 3);
        x.mud(0, 2);
        x.open(1, false);
        x.seed(44);
        return x;
    }

    private static void keep() {
        Due.sentence("IMAGE i becomes what is so (nothing can be undone then): 1. UNKNOWN.");
        SwallowCount x = busy();
        for (int i : new int[] {Due.LEAST, -1, 2, 31, 32, 33, Due.MOST}) {
            Due.is("keep(" + i + ")", x.keep(i), UNKNOWN);
            Due.is("goBack(" + i + ")", x.goBack(i), UNKNOWN);
        }
        Due.is("told(14)", x.told(14), 4);
        Due.is("keep(0)", x.keep(0), 1);
        Due.is("told(14)", x.told(14), 0);
        Due.is("undo()", x.undo(), NOT);
        x.year(1);
        Due.is("keep(1)", x.keep(1), 1);
        Due.is("undo()", x.undo(), NOT);
        x.year(1);
        Due.is("keep(0) anew", x.keep(0), 1);
        x.year(1);
        x.goBack(1);
        Due.is("IMAGE 1", x.told(5), 2);
        x.goBack(0);
        Due.is("IMAGE 0 is the later one", x.told(5), 3);
        Due.is("of no COUNTIES", new SwallowCount().keep(1), 1);
    }

    private static void goBack() {
        Due.sentence("What is so becomes IMAGE i (nothing can be undone then): 1. UNKNOWN, NOT: it was not kept.");
        SwallowCount x = busy();
        Due.is("IMAGE 0 was not kept", x.goBack(0), NOT);
        Due.is("IMAGE 1 was not kept", x.goBack(1), NOT);
        Due.is("told(14)", x.told(14), 4);
        x.keep(1);
        Due.is("IMAGE 0 was not kept", x.goBack(0), NOT);
        x.mud(0, 1);
        Due.is("goBack(1)", x.goBack(1), 1);
        Due.is("undo()", x.undo(), NOT);
        x.mud(0, 1);
        Due.is("goBack(1) again", x.goBack(1), 1);
        Due.is("FAR", x.barn(0, 3), 3);
        x = busy();
        x.keep(0);
        Due.is("IMAGE 1 was not kept", x.goBack(1), NOT);
        Due.is("goBack(0)", x.goBack(0), 1);
        x.land();
        Due.is("gone with THE LAND", x.goBack(0), NOT);
    }

    private static void whatImagesKeep() {
        Due.sentence("IMAGES 0, 1 keep NESTS, RINGS, who is SHUT, FAR, LOST ones, YEARS, THE SEED.");
        for (int i = 0; i < 2; i++) {
            SwallowCount x = busy();
            SwallowCount other = busy();
            x.keep(i);
            other.keep(i);
            x.drift(9);
            x.mud(0, 1);
            x.open(0, false);
            x.open(1, true);
            x.year(1);
            x.seed(5);
            Due.is("goBack(" + i + ")", x.goBack(i), 1);
            Due.sameFromNowOn("goBack(" + i + ")", x, other);
        }
        // what was SEEN and THE TEXT are none of these
        SwallowCount x = busy();
        x.keep(0);
        x.see(0, 1);
        x.rough(1, 1);
        x.write(0, 1);
        x.feed(32);
        x.goBack(0);
        Due.is("told(4)", x.told(4), 1);
        Due.is("tear()", x.tear(), 3);
    }

    private static void fiveHundredAndTwelveCalls() {
        Due.sentence("An object is used for at most 512 calls after it has been made");
        // 22 letters and land(), 488 calls, and one more
        SwallowCount x = Due.landOf("t1 1 1;b0 40 0 0 0;w0;");
        for (int k = 0; k < 488; k++) {
            x.mud(0, 1);
        }
        Due.is("call 512", x.undo(), 19);
    }

    public static void main(String[] args) {
        see();
        seenIsOfTheNextYear();
        oneToFive();
        waysOfMoving();
        rough();
        spanOfEaves();
        spanRefusals();
        uncounted();
        write();
        judge();
        tear();
        seed();
        keep();
        goBack();
        whatImagesKeep();
        fiveHundredAndTwelveCalls();
        Due.end();
    }
}
