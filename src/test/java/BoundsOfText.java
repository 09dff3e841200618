/** Section 1 and promises 1 to 6: a test for each sentence that names a boundary of THE TEXT or of what is told of it. */
public final class BoundsOfText {
    private static final int NONE = Due.NONE, UNKNOWN = Due.UNKNOWN, OUTSIDE = Due.OUTSIDE, NOT = Due.NOT, FULL = Due.FULL;

    private static String blanks(int n) {
        return " ".repeat(n);
    }

    // ---- section 1: the clauses

    private static void letters() {
        Due.sentence("THE LAND is told in a text (240 letters at most)");
        // the 240th letter still counts: it ends the clause
        Due.is("told(0)", Texts.stands("t1 1 1" + blanks(233) + ";", 0).told(0), 1);
        SwallowCount x = new SwallowCount();
        Due.feed(x, "t1 1 1" + blanks(234));
        Due.is("letter 241", x.feed(';'), FULL);
        Due.is("it is not of the text", x.land(), -11);
        Due.is("fault()", x.fault(), 240);
    }

    private static void counties() {
        Due.sentence("(COUNTIES 0 .. C less 1, C 1 .. 4");
        Texts.fails("t0 1 1;", 2, 1);
        Texts.fails("t5 1 1;", 2, 1);
        for (int c = 1; c <= 4; c++) {
            SwallowCount x = Texts.stands("t" + c + " 1 1;", 0);
            Due.is("told(0)", x.told(0), c);
            Due.is("the last COUNTY", x.votes(c - 1), 0);
            Due.is("one more", x.votes(c), UNKNOWN);
            Due.is("COUNTY 0", x.votes(0), 0);
            Due.is("COUNTY -1", x.votes(-1), UNKNOWN);
        }
    }

    private static void soulsASeat() {
        Due.sentence("a SEAT for each S souls, 1 .. 30");
        Texts.fails("t1 0 1;", 2, 3);
        Texts.fails("t1 31 1;", 2, 3);
        SwallowCount x = Texts.stands("t1 1 7;b0 40 30 9 0;", 1);
        Due.is("S 1", x.told(1), 1);
        Due.is("SEATS", x.count(0, 0, 1), 30);
        x = Texts.stands("t1 30 7;b0 40 30 9 0;b0 40 29 9 0;", 2);
        Due.is("S 30", x.told(1), 30);
        Due.is("SEATS of 59", x.count(0, 0, 1), 1);
    }

    private static void soulsAMan() {
        Due.sentence("a MAN to give for each M, 1 .. 30");
        Texts.fails("t1 1 0;", 2, 5);
        Texts.fails("t1 1 31;", 2, 5);
        SwallowCount x = Texts.stands("t1 7 1;b0 40 30 9 0;", 1);
        Due.is("M 1", x.told(2), 1);
        Due.is("MEN", x.count(0, 0, 2), 30);
        x = Texts.stands("t1 7 30;b0 40 30 9 0;b0 40 29 9 0;", 2);
        Due.is("M 30", x.told(2), 30);
        Due.is("MEN of 59", x.count(0, 0, 2), 1);
    }

    private static void treatyFirstAndOnce() {
        Due.sentence("first, once)");
        Texts.stands("t1 1 1;b0 1 1 1 1;w1;", 1);
        Texts.fails("b0 1 1 1 1;t1 1 1;", 1, 0);
        Texts.fails("w1;t1 1 1;", 1, 0);
        Texts.fails("t1 1 1;t1 1 1;", 3, 7);
        Texts.fails("t1 1 1;b0 1 1 1 1;t1 1 1;", 3, 18);
    }

    private static void eightBarns() {
        Due.sentence("(8 BARNS at most: in COUNTY C");
        String barn = "b0 1 1 1 1;";
        Due.is("told(3) of none", Texts.stands("t1 1 1;", 0).told(3), 0);
        SwallowCount x = Texts.stands("t1 1 1;" + barn.repeat(8), 8);
        Due.is("told(3)", x.told(3), 8);
        Due.is("BARN 7", x.barn(7, 1), 1);
        Due.is("BARN 8", x.barn(8, 1), UNKNOWN);
        Texts.fails("t1 1 1;" + barn.repeat(9), 3, 7 + 8 * barn.length());
    }

    private static void countyOfABarn() {
        Due.sentence("a COUNTY that there is not (at its first)");
        for (int c = 1; c <= 4; c++) {
            String treaty = "t" + c + " 1 1;";
            Due.is("COUNTY 0", Texts.stands(treaty + "b0 1 1 1 1;", 1).barn(0, 0), 0);
            Due.is("the last COUNTY", Texts.stands(treaty + "b" + (c - 1) + " 1 1 1 1;", 1).barn(0, 0), c - 1);
            Texts.fails(treaty + "b" + c + " 1 1 1 1;", 2, 8);
        }
        Texts.fails("t4 1 1;b 010 1 1 1 1;", 2, 9);
        Texts.fails("t4 1 1;b999 1 1 1 1;", 2, 8);
    }

    private static void eaves() {
        Due.sentence("EAVES for E NESTS, 0 .. 40");
        Due.is("E 0", Texts.stands("t1 1 1;b0 0 0 1 1;", 1).barn(0, 1), 0);
        Due.is("E 40", Texts.stands("t1 1 1;b0 40 0 1 1;", 1).barn(0, 1), 40);
        Texts.fails("t1 1 1;b0 41 0 1 1;", 2, 10);
        Texts.fails("t1 1 1;b0 999 0 1 1;", 2, 10);
    }

    private static void nests() {
        Due.sentence("N NESTS, 0 .. E;");
        Due.is("N 0 of 0", Texts.stands("t1 1 1;b0 0 0 1 1;", 1).barn(0, 2), 0);
        Due.is("N 0", Texts.stands("t1 1 1;b0 7 0 1 1;", 1).barn(0, 2), 0);
        Due.is("N is E", Texts.stands("t1 1 1;b0 7 7 1 1;", 1).barn(0, 2), 7);
        Due.is("N 40 of 40", Texts.stands("t1 1 1;b0 40 40 1 1;", 1).barn(0, 2), 40);
        Texts.fails("t1 1 1;b0 7 8 1 1;", 4, 12);
        Texts.fails("t1 1 1;b0 0 1 1 1;", 4, 12);
        Texts.fails("t1 1 1;b0 40 41 1 1;", 2, 13);
    }

    private static void far() {
        Due.sentence("FAR from mud by F, 0 .. 9");
        Due.is("F 0", Texts.stands("t1 1 1;b0 1 1 0 1;", 1).barn(0, 3), 0);
        Due.is("F 9", Texts.stands("t1 1 1;b0 1 1 9 1;", 1).barn(0, 3), 9);
        Texts.fails("t1 1 1;b0 1 1 10 1;", 2, 14);
    }

    private static void kinds() {
        Due.sentence("KIND K 0 .. 3");
        Due.is("K 0", Texts.stands("t1 1 1;b0 1 1 1 0;", 1).barn(0, 4), 0);
        Due.is("K 3", Texts.stands("t1 1 1;b0 1 1 1 3;", 1).barn(0, 4), 3);
        Texts.fails("t1 1 1;b0 1 1 1 4;", 2, 16);
    }

    private static void rains() {
        Due.sentence("(RAIN of years, 1 to 8 numbers, 0 .. 9");
        Texts.fails("t1 1 1;w;", 1, 8);
        Due.is("one, R 0", Texts.stands("t1 1 1;w0;", 0).told(6), 0);
        Due.is("one, R 9", Texts.stands("t1 1 1;w9;", 0).told(6), 9);
        Texts.stands("t1 1 1;w1,2,3,4,5,6,7,8;", 0);
        Texts.fails("t1 1 1;w1,2,3,4,5,6,7,8,9;", 1, 23);
        Texts.fails("t1 1 1;w10;", 2, 8);
        Texts.fails("t1 1 1;w1,2,3,4,5,6,7,10;", 2, 22);
    }

    private static void rainsWrapAround() {
        Due.sentence("year t has the one of t left over by how many");
        for (int many = 1; many <= 8; many++) {
            StringBuilder text = new StringBuilder("t1 1 1;w9");
            for (int k = 1; k < many; k++) {
                text.append(',').append(8 - k);
            }
            SwallowCount x = Texts.stands(text + ";", 0);
            for (int t = 0; t <= 2 * many; t++) {
                Due.is("RAIN of year " + t + " by " + many, x.told(6), t % many == 0 ? 9 : 8 - t % many);
                x.year(1);
            }
        }
        SwallowCount x = Due.landOf("t1 1 1;b0 40 10 0 0;w0,7;");
        Due.is("year(1) of 0", x.year(1), 10);
        Due.is("year(1) of 7", x.year(1), 17);
        Due.is("year(1) of 0 again", x.year(1), 17);
        Due.is("year(2) across the end", x.year(2), 28);
    }

    private static void rainUntoldAndOnce() {
        Due.sentence("5 untold; once");
        Due.is("a new one", new SwallowCount().told(6), 5);
        SwallowCount x = Texts.stands("t1 1 1;b0 40 10 0 0;", 1);
        Due.is("told(6)", x.told(6), 5);
        Due.is("year(1)", x.year(1), 15);
        Due.is("told(6) a year on", x.told(6), 5);
        for (int earlier = 1; earlier <= 3; earlier++) {
            for (int k = 0; k < earlier; k++) {
                Due.landIn(x, "t1 1 1;w9;");
            }
            Due.landIn(x, "t1 1 1;");
            Due.is("of " + earlier + " earlier LANDS nothing stays", x.told(6), 5);
        }
        Due.feed(x, "t1 1 1;w9;;");
        Due.is("land() with a FAULT", x.land(), -11);
        Due.landIn(x, "t1 1 1;");
        Due.is("of a text with a FAULT nothing stays", x.told(6), 5);
        Texts.fails("t1 1 1;w1;w1;", 3, 10);
    }

    // ---- section 1: letters and FAULTS

    private static void figures() {
        Due.sentence("NUMBERS have one to three figures");
        Due.is("one", Texts.stands("t2 1 1;", 0).told(0), 2);
        Due.is("two", Texts.stands("t02 1 1;", 0).told(0), 2);
        Due.is("three", Texts.stands("t002 030 001;", 0).told(1), 30);
        Texts.fails("t0002 1 1;", 2, 1);
        Texts.fails("t;", 1, 1);
        Due.sentence("a NUMBER of four figures or more, or out of its bounds");
        Texts.fails("t1 1 1;w0000;", 2, 8);
        Texts.fails("t1 1 1;w00005;", 2, 8);
        Texts.fails("t1 1 1;w999;", 2, 8);
        // 2 to the 32 and 1: a NUMBER that would wrap around is none that stands
        Texts.fails("t4294967297 1 1;", 2, 1);
        Texts.fails("t1 1 1;b0 " + "0".repeat(100), 2, 10);
    }

    private static void words() {
        Due.sentence("a word is one letter");
        Texts.fails("tt1 1 1;", 1, 1);
        Texts.fails("t1 1 1;bb0 1 1 1 1;", 1, 8);
        Texts.fails("t1 1 1;ww1;", 1, 8);
    }

    private static void blanksBetween() {
        Due.sentence("blanks (32) may stand anywhere but within NUMBERS");
        Texts.stands("  t  1  1  1  ;  b  0  1  1  1  1  ;  w  1  ,  1  ;  ", 1);
        Texts.stands("t1 1 1;b0 1 1 1 1;w1,1;", 1);
        // within one they part it: C 1, S 2, M 3, and one too many
        Texts.fails("t1 2 3 0;", 1, 7);
        Texts.fails("t1 1 1;w1 0;", 1, 10);
        for (int letter : new int[] {0, 9, 10, 31, 33, 160, 255}) {
            Texts.fails((char) letter + "t1 1 1;", 1, 0);
            Texts.fails("t1 1 1;" + (char) letter, 1, 7);
        }
    }

    private static void numbersSideBySide() {
        Due.sentence("two NUMBERS side by side need one");
        SwallowCount x = Texts.stands("t4 3 20;", 0);
        Due.told(x, 4, 3, 20);
        // S 32 is one NUMBER
        Texts.fails("t4 32 0;", 2, 3);
        Texts.fails("t4 3;", 1, 4);
        Texts.fails("t43 20;", 2, 1);
    }

    private static void firstFault() {
        Due.sentence("at the first letter that has one");
        Texts.fails("t9 99 x", 2, 1);
        Texts.fails("t1 99 x", 2, 3);
        Texts.fails("t1 1 x99", 1, 5);
        Texts.fails("t1 1 1;b0 1 2 99 9;", 4, 12);
        Texts.fails("t1 1 1;t9", 3, 7);
        Texts.fails(blanks(239) + "x", 1, 239);
    }

    private static void theEnd() {
        Due.sentence("(the end at the text's length)");
        Texts.fails("t", 1, 1);
        Texts.fails("t1 1 1", 1, 6);
        Texts.fails("t1 1 1   ", 1, 9);
        Texts.fails("t1 1 1;b0 1 1 1 1", 1, 17);
        Texts.fails("t1 1 1;w1,", 1, 10);
        Texts.fails("t1 1 1" + blanks(234), 1, 240);
        // a full text that ends in a NUMBER
        Texts.fails(blanks(234) + "t1 1 1", 1, 240);
        Texts.fails(blanks(233) + "t1 1 31", 2, 238);
        // what an earlier, longer text had behind that place is none of it
        SwallowCount x = new SwallowCount();
        Due.feed(x, "t1 1 1111;");
        Due.is("land()", x.land(), -12);
        Due.feed(x, "t1 1 1");
        Due.is("land()", x.land(), -11);
        Due.is("fault()", x.fault(), 6);
        Due.feed(x, "t1 1 1;");
        x.land();
        Due.feed(x, "t1 1 1");
        Due.is("land()", x.land(), -11);
        Due.is("fault()", x.fault(), 6);
    }

    private static void theLeast() {
        Due.sentence("of these the least");
        // 1 and 2: a NUMBER of four figures where none can stand
        Texts.fails("t1 1 1 9999;", 1, 7);
        Texts.fails("9999", 1, 0);
        // 1 and 3: a word again within a clause
        Texts.fails("t1 t", 1, 3);
        Texts.fails("t1 1 1;w1;b0 w", 1, 13);
        // 2 and 4: N above E and above 40
        Texts.fails("t1 1 1;b0 5 41 1 1;", 2, 12);
        Texts.fails("t1 1 1;b0 5 40 1 1;", 4, 12);
        Texts.fails("t1 1 1;b0 0 0001 1 1;", 2, 12);
    }

    private static void cannotStand() {
        Due.sentence("1 it cannot stand there (a letter that is no word, another word first than 't'");
        Texts.fails("x", 1, 0);
        Texts.fails("T1 1 1;", 1, 0);
        Texts.fails("t1 1 1;B", 1, 7);
        Texts.fails(";", 1, 0);
        Texts.fails("t1 1 1;;", 1, 7);
        Texts.fails(",", 1, 0);
        Texts.fails("1", 1, 0);
        Texts.fails("b", 1, 0);
        Texts.fails("w", 1, 0);
        Texts.fails("  b", 1, 2);
        // the signs beside the figures, '/' and ':', are none
        Texts.fails("t/ 1 1;", 1, 1);
        Texts.fails("t: 1 1;", 1, 1);
        Texts.fails("t1/1 1;", 1, 2);
        Texts.fails("t1:1 1;", 1, 2);
        Texts.fails("t-1 1 1;", 1, 1);
    }

    private static void ninthRain() {
        Due.sentence("a ninth R: at its ','");
        Texts.fails("t1 1 1;w1,2,3,4,5,6,7,8,9;", 1, 23);
        Texts.fails("t1 1 1;w1,2,3,4,5,6,7,8  , 9;", 1, 25);
        Texts.fails("t1 1 1;w1,2,3,4,5,6,7,8,99;", 1, 23);
        Texts.stands("t1 1 1;w1,2,3,4,5,6,7,8  ;", 0);
    }

    private static void again() {
        Due.sentence("3 't', 'w' again, a ninth 'b' (at it)");
        Texts.fails("t1 1 1;  t", 3, 9);
        Texts.fails("t1 1 1;w1;  w", 3, 12);
        Texts.fails("t1 1 1;" + "b0 1 1 1 1;".repeat(8) + "  b", 3, 97);
        Texts.stands("t1 1 1;" + "b0 1 1 1 1;".repeat(8) + "w1;", 8);
    }

    private static void aboveEaves() {
        Due.sentence("4 N above E (at the N)");
        Texts.stands("t1 1 1;b0 39 39 1 1;", 1);
        Texts.fails("t1 1 1;b0 39 40 1 1;", 4, 13);
        Texts.fails("t1 1 1;b0 39   040 1 1;", 4, 15);
        Texts.fails("t1 1 1;b0 0 1", 4, 12);
    }

    private static void emptyText() {
        Due.sentence("An empty text (or one of blanks alone) has no FAULT: no COUNTIES.");
        for (int n : new int[] {0, 1, 239, 240}) {
            SwallowCount x = Texts.stands(blanks(n), 0);
            Due.told(x, 0, 0, 0, 0, 0, 0, 5, 0, 0, 0, 0, 0, 0, 0, 0);
        }
        SwallowCount x = Due.landOf("t2 1 1;b1 9 5 1 0;w9;");
        Due.is("land() of nothing more", x.land(), 0);
        Due.is("COUNTIES are gone", x.told(0), 0);
        Due.is("BARNS are gone", x.barn(0, 0), UNKNOWN);
        Due.is("year(1)", x.year(1), NOT);
    }

    // ---- promises 1 to 6

    private static void aNewObject() {
        Due.sentence("`SwallowCount()`: No COUNTIES.");
        SwallowCount x = new SwallowCount();
        Due.told(x, 0, 0, 0, 0, 0, 0, 5, 0, 0, 0, 0, 0, 0, 0, 0);
        Due.is("fault()", x.fault(), NONE);
        Due.is("votes(0)", x.votes(0), UNKNOWN);
        Due.is("barn(0, 0)", x.barn(0, 0), UNKNOWN);
        Due.is("year(1)", x.year(1), NOT);
        Due.is("drift(1)", x.drift(1), NOT);
        Due.is("elected()", x.elected(), NONE);
        Due.is("undo()", x.undo(), NOT);
        Due.is("goBack(0)", x.goBack(0), NOT);
        Due.is("goBack(1)", x.goBack(1), NOT);
        Due.is("seed(1)", x.seed(1), 0);
        Due.is("tear()", x.tear(), 0);
    }

    private static void feed() {
        Due.sentence("One letter (a number 0 .. 255) comes behind THE TEXT: how many it has. OUTSIDE, FULL (240).");
        SwallowCount x = new SwallowCount();
        Due.is("feed(-1)", x.feed(-1), OUTSIDE);
        Due.is("feed(256)", x.feed(256), OUTSIDE);
        Due.is("feed(0)", x.feed(0), 1);
        Due.is("feed(255)", x.feed(255), 2);
        for (int n = 3; n <= 240; n++) {
            Due.is("feed(32)", x.feed(32), n);
        }
        Due.is("letter 241", x.feed(32), FULL);
        Due.is("told(4)", x.told(4), 240);
        Due.is("land()", x.land(), -11);
        Due.is("there is room again", x.feed(32), 1);
        // what comes goes behind: 'b' alone would not stand first
        Due.landIn(x, "t1 1 1;");
        Due.feed(x, "t1 1 1;");
        Due.landIn(x, "b0 1 1 1 1;");
    }

    private static void textIsEmptyThen() {
        Due.sentence("THE TEXT (it is empty then, with a FAULT, too) becomes THE LAND");
        SwallowCount x = new SwallowCount();
        Due.feed(x, "t1 1 1;");
        Due.is("land()", x.land(), 0);
        Due.is("told(4)", x.told(4), 0);
        Due.feed(x, "t1 1 1;;");
        Due.is("land() with a FAULT", x.land(), -11);
        Due.is("told(4)", x.told(4), 0);
        Due.is("land() of an empty one", x.land(), 0);
        Due.is("told(0)", x.told(0), 0);
    }

    private static void somethingOfEach(SwallowCount x) {
        Due.landIn(x, "t2 2 3;b0 9 5 1 1;b1 9 6 1 0;w8,1;");
        x.seed(77);
        x.year(1);
        x.keep(0);
        x.keep(1);
        x.year(1);
        x.ring(0, 2);
        x.mud(1, 1);
        x.open(1, false);
        x.see(0, 1);
        x.rough(1, 1);
        x.write(0, 1);
    }

    private static void aNewLand() {
        Due.sentence("(YEAR 0, all OPEN, no RINGS, nobody LOST; nothing SEEN, no ROUGH counts, no BOOK; "
            + "IMAGES, what could be undone are gone; THE SEED stays)");
        SwallowCount x = new SwallowCount();
        somethingOfEach(x);
        Due.landIn(x, "t2 2 3;b0 9 5 1 1;b1 9 6 1 0;w8,1;");
        Due.told(x, 2, 2, 3, 2, 0, 0, 8, 0, 11, 0, 0, 0, 0, 0, 0);
        Due.barn(x, 0, 0, 9, 5, 1, 1, 0, 0);
        Due.barn(x, 1, 1, 9, 6, 1, 0, 0, 0);
        Due.is("IMAGE 0", x.goBack(0), NOT);
        Due.is("IMAGE 1", x.goBack(1), NOT);
        Due.is("undo()", x.undo(), NOT);
        Due.is("judge()", x.judge(), NONE);
        Due.is("span(0, 1)", x.span(0, 1), 9);
        Due.is("THE SEED", x.seed(0), 77);
    }

    private static void landAnswers() {
        Due.sentence("how many BARNS; -10 less the number of its FAULT (all else is as it was).");
        Texts.stands("t1 1 1;", 0);
        Texts.stands("t1 1 1;" + "b0 1 1 1 1;".repeat(8), 8);
        String[] faulty = {"x", "t5", "t1 1 1;t", "t1 1 1;b0 1 2"};
        for (int k = 0; k < faulty.length; k++) {
            SwallowCount x = new SwallowCount();
            somethingOfEach(x);
            SwallowCount other = new SwallowCount();
            somethingOfEach(other);
            Due.feed(x, faulty[k]);
            Due.is("land() of '" + faulty[k] + "'", x.land(), -11 - k);
            Due.sameFromNowOn("land() of '" + faulty[k] + "'", x, other);
        }
    }

    private static void fault() {
        Due.sentence("The place (from 0 on) of the letter that has the FAULT of the latest land(); NONE.");
        SwallowCount x = new SwallowCount();
        Due.is("of a new one", x.fault(), NONE);
        Due.feed(x, "x");
        Due.is("ahead of land()", x.fault(), NONE);
        x.land();
        Due.is("the first letter", x.fault(), 0);
        Due.feed(x, "t1 1 1;x");
        Due.is("of the latest land(), not of the text", x.fault(), 0);
        x.land();
        Due.is("another one", x.fault(), 7);
        x.land();
        Due.is("no FAULT any more", x.fault(), NONE);
    }

    private static void told() {
        Due.sentence("0 COUNTIES, 1 S, 2 M, 3 BARNS, 4 letters of THE TEXT, 5 YEARS, 6 RAIN of this year, 7 SHUT BARNS (a SET), "
            + "8 NESTS of all, 9 LOST ones, 10 RINGS of all, 11 how many were SEEN, 12 ROUGH counts, 13 entries of THE BOOK, "
            + "14 how many can be undone. OUTSIDE.");
        SwallowCount x = new SwallowCount();
        somethingOfEach(x);
        x.feed(' ');
        x.write(1, 1);
        x.rough(2, 2);
        x.rough(3, 3);
        x.see(1, 1);
        // year 0, RAIN 8: 5 - 1 + 4 * 7 / 10 + 1 is 7, 6 + 4 and a HOMELESS one less is 9; year 1, RAIN 1: 7 - 2, 9
        Due.told(x, 2, 2, 3, 2, 1, 2, 8, 2, 14, 4, 2, 2, 3, 2, 4);
        Due.is("told(-1)", x.told(-1), OUTSIDE);
        Due.is("told(15)", x.told(15), OUTSIDE);
        Due.is("told(the least)", x.told(Due.LEAST), OUTSIDE);
        Due.is("told(the most)", x.told(Due.MOST), OUTSIDE);
    }

    private static void barn() {
        Due.sentence("Of a BARN: what = 0 COUNTY, 1 EAVES, 2 NESTS, 3 FAR, 4 KIND, 5 RINGS, 6 1 it is SHUT, 0 not. UNKNOWN, OUTSIDE.");
        SwallowCount x = Due.landOf("t3 1 1;b0 9 5 8 0;b2 11 6 7 3;");
        x.ring(1, 4);
        x.open(1, false);
        Due.barn(x, 0, 0, 9, 5, 8, 0, 0, 0);
        Due.barn(x, 1, 2, 11, 6, 7, 3, 4, 1);
        Due.is("barn(0, -1)", x.barn(0, -1), OUTSIDE);
        Due.is("barn(0, 7)", x.barn(0, 7), OUTSIDE);
        Due.is("barn(-1, 0)", x.barn(-1, 0), UNKNOWN);
        Due.is("barn(2, 0)", x.barn(2, 0), UNKNOWN);
    }

    public static void main(String[] args) {
        letters();
        counties();
        soulsASeat();
        soulsAMan();
        treatyFirstAndOnce();
        eightBarns();
        countyOfABarn();
        eaves();
        nests();
        far();
        kinds();
        rains();
        rainsWrapAround();
        rainUntoldAndOnce();
        figures();
        words();
        blanksBetween();
        numbersSideBySide();
        firstFault();
        theEnd();
        theLeast();
        cannotStand();
        ninthRain();
        again();
        aboveEaves();
        emptyText();
        aNewObject();
        feed();
        textIsEmptyThen();
        aNewLand();
        landAnswers();
        fault();
        told();
        barn();
        Due.end();
    }
}
