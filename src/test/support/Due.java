import java.io.IOException;
import java.nio.file.Files;
import java.nio.file.Path;
import java.util.ArrayList;
import java.util.List;

/** What the tests share: an answer that is not as due is told with the sentence of DOC.md that it breaks. */
final class Due {
    static final int NONE = -1, UNKNOWN = -1000000001, OUTSIDE = -1000000002, NOT = -1000000003, FULL = -1000000004;
    static final int LEAST = Integer.MIN_VALUE, MOST = Integer.MAX_VALUE;

    private static int wrong = 0;
    private static int sentences = 0;
    private static String current = "";
    private static String document;

    /** Calls that bring an object to where a test begins. */
    interface Script {
        void play(SwallowCount x);
    }

    /** One call. */
    interface Call {
        int on(SwallowCount x);
    }

    private Due() {
    }

    /** What comes now tests these words; they must stand in DOC.md, so that no test outlives its sentence. */
    static void sentence(String words) {
        current = words;
        sentences++;
        if (!document().contains(words)) {
            wrong++;
            System.out.println("DOC.md does not say: " + words);
        }
    }

    /** What comes now belongs together, by words of the test's own. */
    static void heading(String words) {
        current = words;
    }

    /** DOC.md, each run of blanks and ends of lines as one blank. */
    static String document() {
        if (document == null) {
            try {
                document = Files.readString(Path.of("../shared/DOC.md")).replaceAll("\\s+", " ");
            } catch (IOException e) {
                document = "";
            }
        }
        return document;
    }

    static void is(String call, int got, int want) {
        if (got != want) {
            wrong++;
            System.out.println((current.isEmpty() ? "" : "[" + current + "] ") + call + " answered " + got + ", due is " + want);
        }
    }

    static void must(boolean holds, String what) {
        if (!holds) {
            wrong++;
            System.out.println("[" + current + "] not so: " + what);
        }
    }

    /** The rows of told() or barn() for one run of numbers. */
    static void told(SwallowCount x, int... want) {
        for (int what = 0; what < want.length; what++) {
            is("told(" + what + ")", x.told(what), want[what]);
        }
    }

    static void barn(SwallowCount x, int b, int... want) {
        for (int what = 0; what < want.length; what++) {
            is("barn(" + b + ", " + what + ")", x.barn(b, what), want[what]);
        }
    }

    static void nests(SwallowCount x, int... want) {
        for (int b = 0; b < want.length; b++) {
            is("NESTS of BARN " + b, x.barn(b, 2), want[b]);
        }
    }

    static SwallowCount landOf(String text) {
        SwallowCount x = new SwallowCount();
        landIn(x, text);
        return x;
    }

    static void landIn(SwallowCount x, String text) {
        feed(x, text);
        is("land() of '" + text + "'", x.land(), (int) text.chars().filter(letter -> letter == 'b').count());
    }

    static void feed(SwallowCount x, String text) {
        for (int i = 0; i < text.length(); i++) {
            x.feed(text.charAt(i));
        }
    }

    /** A land of 8 BARNS, as many as there can be, that all have the same numbers. */
    static String eightBarns(String treaty, String barn) {
        return treaty + barn.repeat(8);
    }

    /** The call is refused, and behind it all goes on as if it had never been made. */
    static void refused(String call, int refusal, Script before, Call asked) {
        SwallowCount one = new SwallowCount();
        before.play(one);
        is(call, asked.on(one), refusal);
        SwallowCount other = new SwallowCount();
        before.play(other);
        is("fault() behind " + call, one.fault(), other.fault());
        sameFromNowOn(call, one, other);
    }

    /** The call answers something, and changes nothing by it. */
    static void onlyAsks(String call, Script before, Call asked) {
        SwallowCount one = new SwallowCount();
        before.play(one);
        int first = asked.on(one);
        is(call + " asked again", asked.on(one), first);
        SwallowCount other = new SwallowCount();
        before.play(other);
        is("fault() behind " + call, one.fault(), other.fault());
        sameFromNowOn(call, one, other);
    }

    /** Both objects are asked for all that they can tell, but for fault(), and are used up by that. */
    static void sameFromNowOn(String call, SwallowCount one, SwallowCount other) {
        List<Integer> ofOne = all(one);
        List<Integer> ofOther = all(other);
        if (!ofOne.equals(ofOther)) {
            wrong++;
            System.out.println("[" + current + "] " + call + " changed what follows:\n  " + ofOne + "\n  " + ofOther);
        }
    }

    private static List<Integer> all(SwallowCount x) {
        List<Integer> answers = new ArrayList<>();
        addNow(x, answers);
        answers.add(x.judge());
        answers.add(x.uncounted());
        for (int i = -1; i < 3; i++) {
            answers.add(x.moved(i));
        }
        for (int b = 0; b < x.told(3); b++) {
            answers.add(x.span(b, 0));
            answers.add(x.span(b, 1));
        }
        int left = x.told(14);
        for (int k = 0; k <= left; k++) {
            answers.add(x.undo());
            addShort(x, answers);
        }
        for (int i = 0; i < 2; i++) {
            answers.add(x.goBack(i));
            addNow(x, answers);
        }
        answers.add(x.tear());
        answers.add(x.land());
        answers.add(x.fault());
        addNow(x, answers);
        return answers;
    }

    private static void addNow(SwallowCount x, List<Integer> answers) {
        for (int what = 0; what <= 14; what++) {
            answers.add(x.told(what));
        }
        for (int b = 0; b < x.told(3); b++) {
            for (int what = 0; what <= 6; what++) {
                answers.add(x.barn(b, what));
            }
        }
        int seed = x.seed(0);
        answers.add(seed);
        x.seed(seed);
    }

    private static void addShort(SwallowCount x, List<Integer> answers) {
        for (int what : new int[] {5, 7, 8, 9, 10}) {
            answers.add(x.told(what));
        }
        for (int b = 0; b < x.told(3); b++) {
            answers.add(x.barn(b, 2));
            answers.add(x.barn(b, 3));
        }
    }

    /** The last call of each test. */
    static void end() {
        String heard = sentences == 0 ? "" : " (" + sentences + " sentences)";
        System.out.println((wrong == 0 ? "all answers are as due" : wrong + " answers are not as due") + heard);
        if (wrong != 0) {
            System.exit(1);
        }
    }
}
