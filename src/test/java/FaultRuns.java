/** Promises 2, 3, 4: texts with the answer of land() and the place that fault() tells. */
public final class FaultRuns {
    private static int wrong = 0;

    private static void due(String call, int got, int want) {
        if (got != want) {
            wrong++;
            System.out.println(call + " answered " + got + ", due is " + want);
        }
    }

    private static void feed(SwallowCount x, String text) {
        for (int i = 0; i < text.length(); i++) {
            due("feed of letter " + i + " of '" + text + "'", x.feed(text.charAt(i)), i + 1);
        }
    }

    /** A text that stands. */
    private static void stands(String text, int barns) {
        SwallowCount x = new SwallowCount();
        feed(x, text);
        due("land() of '" + text + "'", x.land(), barns);
        due("fault() of '" + text + "'", x.fault(), -1);
        due("told(4) behind '" + text + "'", x.told(4), 0);
    }

    /** A text with a FAULT; what was so stays. */
    private static void fails(String text, int number, int place) {
        SwallowCount x = new SwallowCount();
        due("fault() of a new one", x.fault(), -1);
        feed(x, "t3 2 4;b2 9 5 1 0;w3;");
        due("first land()", x.land(), 1);
        due("open", x.open(0, false), 1);
        feed(x, text);
        due("land() of '" + text + "'", x.land(), -10 - number);
        due("fault() of '" + text + "'", x.fault(), place);
        due("fault() again", x.fault(), place);
        due("told(4) behind '" + text + "'", x.told(4), 0);
        due("told(0) behind '" + text + "'", x.told(0), 3);
        due("told(1) behind '" + text + "'", x.told(1), 2);
        due("told(2) behind '" + text + "'", x.told(2), 4);
        due("told(3) behind '" + text + "'", x.told(3), 1);
        due("told(6) behind '" + text + "'", x.told(6), 3);
        due("told(7) behind '" + text + "'", x.told(7), 1);
        due("told(14) behind '" + text + "'", x.told(14), 1);
        due("barn(0, 2) behind '" + text + "'", x.barn(0, 2), 5);
        due("land() of an empty text", x.land(), 0);
        due("fault() of an empty text", x.fault(), -1);
    }

    private static void whatStands() {
        stands("", 0);
        stands("   ", 0);
        stands("t1 1 1;", 0);
        stands("t4 30 30;", 0);
        stands("  t 1  1   1  ;  ", 0);
        stands("t001 030 001;", 0);
        stands("t1 1 1;b0 0 0 0 0;", 1);
        stands("t1 1 1;b0 40 40 9 3;", 1);
        stands("t2 1 1;b1 40 0 0 0;b0 1 1 1 1;", 2);
        stands("t1 1 1;w0;", 0);
        stands("t1 1 1;w0,1,2,3,4,5,6,9;", 0);
        stands("t1 1 1;w 0 , 1 , 002 ;b 0 1 1 0 0 ;", 1);
        stands("t1 1 1;w9;b0 1 1 0 0;", 1);
        stands("t1 1 1;" + "b0 1 1 0 0;".repeat(8), 8);
        stands("t1 1 1;" + "b0 1 1 0 0;".repeat(4) + "w5;" + "b0 1 1 0 0;".repeat(4), 8);
    }

    private static void whatCannotStand() {
        fails("b0 1 1 0 0;", 1, 0);
        fails("w1;", 1, 0);
        fails(";", 1, 0);
        fails("5", 1, 0);
        fails("12345", 1, 0);
        fails("  x", 1, 2);
        fails("T1 1 1;", 1, 0);
        fails("t", 1, 1);
        fails("t  ", 1, 3);
        fails("t1", 1, 2);
        fails("t1 1 1", 1, 6);
        fails("t1 1 1 ", 1, 7);
        fails("t1 1;", 1, 4);
        fails("t1,1,1;", 1, 2);
        fails("t1 1 1 1;", 1, 7);
        fails("t1 1 1 1111;", 1, 7);
        fails("t1 1 1;;", 1, 7);
        fails("t1 1 1;1", 1, 7);
        fails("t1 1 1;x", 1, 7);
        fails("t1 1 1;,", 1, 7);
        fails("t1 1 1; \t", 1, 8);
        fails("t1 t", 1, 3);
        fails("tt", 1, 1);
        fails("t-1 1 1;", 1, 1);
        fails("t1 1 1;b", 1, 8);
        fails("t1 1 1;b0 1 1 0;", 1, 15);
        fails("t1 1 1;b0 1 1 0 0 0;", 1, 18);
        fails("t1 1 1;b0 1 1 0 0,", 1, 17);
        fails("t1 1 1;b0 1 1 0 0", 1, 17);
        fails("t1 1 1;b0b", 1, 9);
        fails("t1 1 1;w", 1, 8);
        fails("t1 1 1;w;", 1, 8);
        fails("t1 1 1;w,1;", 1, 8);
        fails("t1 1 1;w1,;", 1, 10);
        fails("t1 1 1;w1 2;", 1, 10);
        fails("t1 1 1;w1", 1, 9);
        fails("t1 1 1;w1,2,3,4,5,6,7,8,9;", 1, 23);
        fails("t1 1 1;w1,2,3,4,5,6,7,8 ,9;", 1, 24);
        fails("t1 1 1;w1,2,3,4,5,6,7,8,", 1, 23);
        fails("t1 1 1;b0 1 1 0 0;b1x", 2, 19);
        fails("" + (char) 0, 1, 0);
        fails("t1 1 1;" + (char) 255, 1, 7);
    }

    private static void whatIsOutOfBounds() {
        fails("t0 1 1;", 2, 1);
        fails("t5 1 1;", 2, 1);
        fails("t5x", 2, 1);
        fails("t5", 2, 1);
        fails("t  5", 2, 3);
        fails("t111;", 2, 1);
        fails("t0001 1 1;", 2, 1);
        fails("t12345678901234567890 1 1;", 2, 1);
        fails("t4294967297 1 1;", 2, 1);
        fails("t1 0 1;", 2, 3);
        fails("t1 31 1;", 2, 3);
        fails("t1 1 0;", 2, 5);
        fails("t1 1 31;", 2, 5);
        fails("t1 1 999;", 2, 5);
        fails("t1 1 1;b1 1 1 0 0;", 2, 8);
        fails("t2 1 1;b2 1 1 0 0;", 2, 8);
        fails("t1 1 1;b0 41 1 0 0;", 2, 10);
        fails("t1 1 1;b0 40 0001 0 0;", 2, 13);
        fails("t1 1 1;b0 3 3 10 0;", 2, 14);
        fails("t1 1 1;b0 3 3 9 4;", 2, 16);
        fails("t1 1 1;w10;", 2, 8);
        fails("t1 1 1;w1,10;", 2, 10);
        fails("t1 1 1;w1, 0009;", 2, 11);
    }

    private static void whatIsOneTooMany() {
        fails("t1 1 1;t", 3, 7);
        fails("t1 1 1; t2 1 1;", 3, 8);
        fails("t1 1 1;w1;w", 3, 10);
        fails("t1 1 1;w1;b0 1 1 0 0;w2;", 3, 21);
        fails("t1 1 1;" + "b0 1 1 0 0;".repeat(8) + "b", 3, 95);
        fails("t1 1 1;" + "b0 1 1 0 0;".repeat(8) + " b9 9 9 9 9;", 3, 96);
    }

    private static void whatIsAboveEaves() {
        fails("t1 1 1;b0 3 4 0 0;", 4, 12);
        fails("t1 1 1;b0 0 1 0 0;", 4, 12);
        fails("t1 1 1;b0 3  4 x", 4, 13);
        fails("t1 1 1;b0 39 40 0 0;", 4, 13);
        fails("t1 1 1;b0 0 40", 4, 12);
    }

    /** Above E and out of all bounds at one letter: the least FAULT is told. */
    private static void whatIsAboveAllEaves() {
        fails("t2 1 1;b0 5 50", 2, 12);
        fails("t1 1 1;b0 40 41 0 0;", 2, 13);
        fails("t1 1 1;b0 40  999 0 0;", 2, 14);
        fails("t1 1 1;b0 0 041 0 0;", 2, 12);
        fails("t1 1 1;b0 0 1000 0 0;", 2, 12);
    }

    private static void feeding() {
        SwallowCount x = new SwallowCount();
        due("feed(-1)", x.feed(-1), SwallowCount.OUTSIDE);
        due("feed(256)", x.feed(256), SwallowCount.OUTSIDE);
        due("feed(MIN)", x.feed(Integer.MIN_VALUE), SwallowCount.OUTSIDE);
        due("told(4)", x.told(4), 0);
        due("feed(0)", x.feed(0), 1);
        due("feed(255)", x.feed(255), 2);
        for (int i = 3; i <= 240; i++) {
            due("feed(32)", x.feed(32), i);
        }
        due("feed(32) when full", x.feed(32), SwallowCount.FULL);
        due("feed(256) when full", x.feed(256), SwallowCount.OUTSIDE);
        due("told(4)", x.told(4), 240);
        due("land()", x.land(), -11);
        due("fault()", x.fault(), 0);
        due("feed(32)", x.feed(32), 1);
        due("land()", x.land(), 0);
    }

    private static void aFullText() {
        // the text fills all 240 letters: its end lies at 240
        SwallowCount x = new SwallowCount();
        feed(x, "t1 1 1;" + " ".repeat(233));
        due("land() of a full text", x.land(), 0);
        due("told(0)", x.told(0), 1);
        feed(x, "t1 1 1" + " ".repeat(234));
        due("land() of a full text without its end", x.land(), -11);
        due("fault()", x.fault(), 240);
        feed(x, "t1 1 1;b0 " + "9".repeat(230));
        due("land() of a long number", x.land(), -12);
        due("fault()", x.fault(), 10);
    }

    public static void main(String[] args) {
        whatStands();
        whatCannotStand();
        whatIsOutOfBounds();
        whatIsOneTooMany();
        whatIsAboveEaves();
        whatIsAboveAllEaves();
        feeding();
        aFullText();
        System.out.println(wrong == 0 ? "all answers are as due" : wrong + " answers are not as due");
        if (wrong != 0) {
            System.exit(1);
        }
    }
}
