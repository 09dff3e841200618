/** Texts that stand, and texts with a FAULT, each with the answers of land() and fault(). */
final class Texts {
    private static final String STANDING = "t3 2 4;b2 9 5 1 0;w3;";

    private Texts() {
    }

    static SwallowCount stands(String text, int barns) {
        SwallowCount x = new SwallowCount();
        feed(x, text);
        Due.is("land() of '" + text + "'", x.land(), barns);
        Due.is("fault() of '" + text + "'", x.fault(), Due.NONE);
        Due.is("told(4) behind '" + text + "'", x.told(4), 0);
        return x;
    }

    /** THE TEXT is empty then; all else is as it was. */
    static void fails(String text, int number, int place) {
        SwallowCount x = new SwallowCount();
        Due.is("fault() of a new one", x.fault(), Due.NONE);
        feed(x, STANDING);
        Due.is("first land()", x.land(), 1);
        Due.is("open", x.open(0, false), 1);
        feed(x, text);
        Due.is("land() of '" + text + "'", x.land(), -10 - number);
        Due.is("fault() of '" + text + "'", x.fault(), place);
        Due.is("fault() again", x.fault(), place);
        Due.told(x, 3, 2, 4, 1, 0, 0, 3, 1, 5, 0, 0, 0, 0, 0, 1);
        Due.barn(x, 0, 2, 9, 5, 1, 0, 0, 1);
        Due.is("land() of an empty text", x.land(), 0);
        Due.is("fault() of an empty text", x.fault(), Due.NONE);
    }

    private static void feed(SwallowCount x, String text) {
        for (int i = 0; i < text.length(); i++) {
            Due.is("feed of letter " + i + " of '" + text + "'", x.feed(text.charAt(i)), i + 1);
        }
    }
}
