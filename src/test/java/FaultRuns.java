/** Promises 2, 3, 4: texts with the answer of land() and the place that fault() tells. */
public final class FaultRuns {
    private static void whatStands() {
        Texts.stands("", 0);
        Texts.stands("   ", 0);
        Texts.stands("t1 1 1;", 0);
        Texts.stands("t4 30 30;", 0);
        Texts.stands("  t 1  1   1  ;  ", 0);
        Texts.stands("t001 030 001;", 0);
        Texts.stands("t1 1 1;b0 0 0 0 0;", 1);
        Texts.stands("t1 1 1;b0 40 40 9 3;", 1);
        Texts.stands("t2 1 1;b1 40 0 0 0;b0 1 1 1 1;", 2);
        Texts.stands("t1 1 1;w0;", 0);
        Texts.stands("t1 1 1;w0,1,2,3,4,5,6,9;", 0);
        Texts.stands("t1 1 1;w 0 , 1 , 002 ;b 0 1 1 0 0 ;", 1);
        Texts.stands("t1 1 1;w9;b0 1 1 0 0;", 1);
        Texts.stands("t1 1 1;" + "b0 1 1 0 0;".repeat(8), 8);
        Texts.stands("t1 1 1;" + "b0 1 1 0 0;".repeat(4) + "w5;" + "b0 1 1 0 0;".repeat(4), 8);
    }

    private static void whatCannotStand() {
        Texts.fails("b0 1 1 0 0;", 1, 0);
        Texts.fails("w1;", 1, 0);
        Texts.fails(";", 1, 0);
        Texts.fails("5", 1, 0);
        Texts.fails("12345", 1, 0);
        Texts.fails("  x", 1, 2);
        Texts.fails("T1 1 1;", 1, 0);
        Texts.fails("t", 1, 1);
        Texts.fails("t  ", 1, 3);
        Texts.fails("t1", 1, 2);
        Texts.fails("t1 1 1", 1, 6);
        Texts.fails("t1 1 1 ", 1, 7);
        Texts.fails("t1 1;", 1, 4);
        Texts.fails("t1,1,1;", 1, 2);
        Texts.fails("t1 1 1 1;", 1, 7);
        Texts.fails("t1 1 1 1111;", 1, 7);
        Texts.fails("t1 1 1;;", 1, 7);
        Texts.fails("t1 1 1;1", 1, 7);
        Texts.fails("t1 1 1;x", 1, 7);
        Texts.fails("t1 1 1;,", 1, 7);
        Texts.fails("t1 1 1; \t", 1, 8);
        Texts.fails("t1 t", 1, 3);
        Texts.fails("tt", 1, 1);
        Texts.fails("t-1 1 1;", 1, 1);
        Texts.fails("t1 1 1;b", 1, 8);
        Texts.fails("t1 1 1;b0 1 1 0;", 1, 15);
        Texts.fails("t1 1 1;b0 1 1 0 0 0;", 1, 18);
        Texts.fails("t1 1 1;b0 1 1 0 0,", 1, 17);
        Texts.fails("t1 1 1;b0 1 1 0 0", 1, 17);
        Texts.fails("t1 1 1;b0b", 1, 9);
        Texts.fails("t1 1 1;w", 1, 8);
        Texts.fails("t1 1 1;w;", 1, 8);
        Texts.fails("t1 1 1;w,1;", 1, 8);
        Texts.fails("t1 1 1;w1,;", 1, 10);
        Texts.fails("t1 1 1;w1 2;", 1, 10);
        Texts.fails("t1 1 1;w1", 1, 9);
        Texts.fails("t1 1 1;w1,2,3,4,5,6,7,8,9;", 1, 23);
        Texts.fails("t1 1 1;w1,2,3,4,5,6,7,8 ,9;", 1, 24);
        Texts.fails("t1 1 1;w1,2,3,4,5,6,7,8,", 1, 23);
        Texts.fails("t1 1 1;b0 1 1 0 0;b1x", 2, 19);
        Texts.fails("" + (char) 0, 1, 0);
        Texts.fails("t1 1 1;" + (char) 255, 1, 7);
    }

    private static void whatIsOutOfBounds() {
        Texts.fails("t0 1 1;", 2, 1);
        Texts.fails("t5 1 1;", 2, 1);
        Texts.fails("t5x", 2, 1);
        Texts.fails("t5", 2, 1);
        Texts.fails("t  5", 2, 3);
        Texts.fails("t111;", 2, 1);
        Texts.fails("t0001 1 1;", 2, 1);
        Texts.fails("t12345678901234567890 1 1;", 2, 1);
        Texts.fails("t4294967297 1 1;", 2, 1);
        Texts.fails("t1 0 1;", 2, 3);
        Texts.fails("t1 31 1;", 2, 3);
        Texts.fails("t1 1 0;", 2, 5);
        Texts.fails("t1 1 31;", 2, 5);
        Texts.fails("t1 1 999;", 2, 5);
        Texts.fails("t1 1 1;b1 1 1 0 0;", 2, 8);
        Texts.fails("t2 1 1;b2 1 1 0 0;", 2, 8);
        Texts.fails("t1 1 1;b0 41 1 0 0;", 2, 10);
        Texts.fails("t1 1 1;b0 40 0001 0 0;", 2, 13);
        Texts.fails("t1 1 1;b0 3 3 10 0;", 2, 14);
        Texts.fails("t1 1 1;b0 3 3 9 4;", 2, 16);
        Texts.fails("t1 1 1;w10;", 2, 8);
        Texts.fails("t1 1 1;w1,10;", 2, 10);
        Texts.fails("t1 1 1;w1, 0009;", 2, 11);
    }

    private static void whatIsOneTooMany() {
        Texts.fails("t1 1 1;t", 3, 7);
        Texts.fails("t1 1 1; t2 1 1;", 3, 8);
        Texts.fails("t1 1 1;w1;w", 3, 10);
        Texts.fails("t1 1 1;w1;b0 1 1 0 0;w2;", 3, 21);
        Texts.fails("t1 1 1;" + "b0 1 1 0 0;".repeat(8) + "b", 3, 95);
        Texts.fails("t1 1 1;" + "b0 1 1 0 0;".repeat(8) + " b9 9 9 9 9;", 3, 96);
    }

    private static void whatIsAboveEaves() {
        Texts.fails("t1 1 1;b0 3 4 0 0;", 4, 12);
        Texts.fails("t1 1 1;b0 0 1 0 0;", 4, 12);
        Texts.fails("t1 1 1;b0 3  4 x", 4, 13);
        Texts.fails("t1 1 1;b0 39 40 0 0;", 4, 13);
        Texts.fails("t1 1 1;b0 0 40", 4, 12);
    }

    /** Above E and out of all bounds at one letter: the least FAULT is told. */
    private static void whatIsAboveAllEaves() {
        Texts.fails("t2 1 1;b0 5 50", 2, 12);
        Texts.fails("t1 1 1;b0 40 41 0 0;", 2, 13);
        Texts.fails("t1 1 1;b0 40  999 0 0;", 2, 14);
        Texts.fails("t1 1 1;b0 0 041 0 0;", 2, 12);
        Texts.fails("t1 1 1;b0 0 1000 0 0;", 2, 12);
    }

    private static void feeding() {
        SwallowCount x = new SwallowCount();
        Due.is("feed(-1)", x.feed(-1), SwallowCount.OUTSIDE);
        Due.is("feed(256)", x.feed(256), SwallowCount.OUTSIDE);
        Due.is("feed(MIN)", x.feed(Integer.MIN_VALUE), SwallowCount.OUTSIDE);
        Due.is("told(4)", x.told(4), 0);
        Due.is("feed(0)", x.feed(0), 1);
        Due.is("feed(255)", x.feed(255), 2);
        for (int i = 3; i <= 240; i++) {
            Due.is("feed(32)", x.feed(32), i);
        }
        Due.is("feed(32) when full", x.feed(32), SwallowCount.FULL);
        Due.is("feed(256) when full", x.feed(256), SwallowCount.OUTSIDE);
        Due.is("told(4)", x.told(4), 240);
        Due.is("land()", x.land(), -11);
        Due.is("fault()", x.fault(), 0);
        Due.is("feed(32)", x.feed(32), 1);
        Due.is("land()", x.land(), 0);
    }

    private static void aFullText() {
        // the text fills all 240 letters: its end lies at 240
        Due.is("told(0)", Texts.stands("t1 1 1;" + " ".repeat(233), 0).told(0), 1);
        Texts.fails("t1 1 1" + " ".repeat(234), 1, 240);
        Texts.fails("t1 1 1;b0 " + "9".repeat(230), 2, 10);
    }

    public static void main(String[] args) {
        whatStands();
        whatCannotStand();
        whatIsOutOfBounds();
        whatIsOneTooMany();
        whatIsAboveEaves();
        whatIsAboveAllEaves();
        feeding();
        aFullText();
        Due.end();
    }
}
