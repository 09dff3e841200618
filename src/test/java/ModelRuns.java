import java.util.ArrayList;
import java.util.Arrays;
import java.util.Comparator;
import java.util.List;
import java.util.Map;
import java.util.TreeMap;
import java.util.regex.Matcher;
import java.util.regex.Pattern;

/**
 * Runs of calls by draws (always the same ones) against a second, slow reading of the document:
 * NESTS go one by one, searches try everything and sort, texts are judged by a regular expression.
 */
public final class ModelRuns {
    private static final int NONE = -1, UNKNOWN = -1000000001, OUTSIDE = -1000000002, NOT = -1000000003, FULL = -1000000004;

    // ---------------------------------------------------------------- the model

    private static final class Barn {
        int county, eaves, nests, far, kind, rings;
        boolean shut;

        Barn copy() {
            Barn b = new Barn();
            b.county = county;
            b.eaves = eaves;
            b.nests = nests;
            b.far = far;
            b.kind = kind;
            b.rings = rings;
            b.shut = shut;
            return b;
        }
    }

    private static final class World {
        List<Barn> barns = new ArrayList<>();
        int lost, years;
        long seed;

        World copy() {
            World w = new World();
            for (Barn b : barns) {
                w.barns.add(b.copy());
            }
            w.lost = lost;
            w.years = years;
            w.seed = seed;
            return w;
        }

        int souls(int c) {
            return barns.stream().filter(b -> b.county == c).mapToInt(b -> b.nests).sum();
        }

        int nests() {
            return barns.stream().mapToInt(b -> b.nests).sum();
        }

        void pass(int r) {
            for (Barn b : barns) {
                if (b.kind == 1) {
                    int taken = b.nests / 3;
                    b.nests -= taken;
                    lost += taken;
                }
            }
            List<Integer> homeless = new ArrayList<>();
            for (Barn b : barns) {
                int most = b.eaves;
                if (b.shut) {
                    most = 0;
                } else if (b.kind != 2 && r > b.far) {
                    int young = b.nests * (r - b.far) / 10;
                    b.nests += b.kind == 3 ? young + young / 2 : young;
                }
                while (b.nests > most) {
                    b.nests--;
                    homeless.add(b.county);
                }
            }
            for (int c : homeless) {
                Barn home = barns.stream().filter(b -> b.county == c && !b.shut && b.nests < b.eaves).findFirst().orElse(null);
                if (home == null) {
                    lost++;
                } else {
                    home.nests++;
                }
            }
            for (Barn b : barns) {
                if (r >= 8 && !b.shut && b.nests > 0 && b.nests < b.eaves) {
                    b.nests++;
                }
                b.rings = Math.min(b.rings, b.nests);
            }
            years++;
        }
    }

    private static final class Model {
        StringBuilder text = new StringBuilder();
        int counties, s, m, faultPlace = NONE;
        int[] rain = {5};
        World now = new World();
        List<World> history = new ArrayList<>();
        World[] images = new World[2];
        List<int[]> seen = new ArrayList<>(), rough = new ArrayList<>(), book = new ArrayList<>();

        boolean noBarn(int b) {
            return b < 0 || b >= now.barns.size();
        }

        boolean noCounty(int c) {
            return c < 0 || c >= counties;
        }

        int rainNow(World w) {
            return rain[w.years % rain.length];
        }

        World behindAYear(World w) {
            World next = w.copy();
            next.pass(rainNow(next));
            return next;
        }

        void remember() {
            history.add(now.copy());
            if (history.size() > 20) {
                history.remove(0);
            }
        }

        int feed(int letter) {
            if (letter < 0 || letter > 255) {
                return OUTSIDE;
            }
            if (text.length() == 240) {
                return FULL;
            }
            text.append((char) letter);
            return text.length();
        }

        int land() {
            String t = text.toString();
            text.setLength(0);
            int[] fault = faultOf(t);
            faultPlace = fault == null ? NONE : fault[0];
            if (fault != null) {
                return -10 - fault[1];
            }
            long seed = now.seed;
            now = new World();
            now.seed = seed;
            counties = 0;
            s = 0;
            m = 0;
            rain = new int[] {5};
            for (String clause : t.split(";")) {
                int[] n = Arrays.stream(clause.replaceAll("[^0-9]", " ").trim().split(" +"))
                    .filter(x -> !x.isEmpty()).mapToInt(Integer::parseInt).toArray();
                char word = clause.trim().isEmpty() ? ' ' : clause.trim().charAt(0);
                if (word == 't') {
                    counties = n[0];
                    s = n[1];
                    m = n[2];
                } else if (word == 'w') {
                    rain = n;
                } else if (word == 'b') {
                    Barn b = new Barn();
                    b.county = n[0];
                    b.eaves = n[1];
                    b.nests = n[2];
                    b.far = n[3];
                    b.kind = n[4];
                    now.barns.add(b);
                }
            }
            history.clear();
            images = new World[2];
            seen.clear();
            rough.clear();
            book.clear();
            return now.barns.size();
        }

        int told(int what) {
            int shut = 0;
            int rings = 0;
            for (int b = 0; b < now.barns.size(); b++) {
                shut += now.barns.get(b).shut ? 1 << b : 0;
                rings += now.barns.get(b).rings;
            }
            int[] all = {counties, s, m, now.barns.size(), text.length(), now.years, rainNow(now), shut, now.nests(),
                now.lost, rings, seen.size(), rough.size(), book.size(), history.size()};
            return what < 0 || what >= all.length ? OUTSIDE : all[what];
        }

        int barn(int b, int what) {
            if (noBarn(b)) {
                return UNKNOWN;
            }
            Barn x = now.barns.get(b);
            int[] all = {x.county, x.eaves, x.nests, x.far, x.kind, x.rings, x.shut ? 1 : 0};
            return what < 0 || what >= all.length ? OUTSIDE : all[what];
        }

        int years(int n, boolean byDraws) {
            if (n < 1 || n > 99) {
                return OUTSIDE;
            }
            if (counties == 0) {
                return NOT;
            }
            if (now.years > 9000) {
                return FULL;
            }
            remember();
            for (int k = 0; k < n; k++) {
                if (byDraws) {
                    now.seed = (now.seed * 1103515245L + 12345L) % 2147483648L;
                }
                now.pass(byDraws ? (int) (now.seed / 65536 % 10) : rainNow(now));
            }
            return now.nests();
        }

        int open(int b, boolean is) {
            if (noBarn(b)) {
                return UNKNOWN;
            }
            remember();
            int was = now.barns.get(b).shut ? 0 : 1;
            now.barns.get(b).shut = !is;
            return was;
        }

        int move(int from, int to, int n) {
            if (noBarn(from) || noBarn(to) || from == to) {
                return UNKNOWN;
            }
            if (n < 1 || n > 40) {
                return OUTSIDE;
            }
            Barn a = now.barns.get(from);
            Barn z = now.barns.get(to);
            if (n > a.nests || n > z.eaves - z.nests) {
                return NOT;
            }
            remember();
            a.nests -= n;
            z.nests += n;
            if (a.rings > a.nests) {
                a.rings = a.nests;
            }
            return z.nests;
        }

        int mud(int b, int n) {
            if (noBarn(b)) {
                return UNKNOWN;
            }
            if (n < 1 || n > 9) {
                return OUTSIDE;
            }
            remember();
            Barn x = now.barns.get(b);
            x.far = n > x.far ? 0 : x.far - n;
            return x.far;
        }

        int ring(int b, int n) {
            if (noBarn(b)) {
                return UNKNOWN;
            }
            if (n < 1 || n > 40) {
                return OUTSIDE;
            }
            Barn x = now.barns.get(b);
            if (x.rings + n > x.nests) {
                return NOT;
            }
            remember();
            x.rings += n;
            return x.rings;
        }

        int undo() {
            if (history.isEmpty()) {
                return NOT;
            }
            long seed = now.seed;
            now = history.remove(history.size() - 1);
            now.seed = seed;
            return history.size();
        }

        int count(int c, int n, int what) {
            if (noCounty(c)) {
                return UNKNOWN;
            }
            if (n < 0 || n > 60 || what < 0 || what > 2) {
                return OUTSIDE;
            }
            World w = now;
            for (int k = 0; k < n; k++) {
                w = behindAYear(w);
            }
            return w.souls(c) / new int[] {1, s, m}[what];
        }

        int leave(int c, int seats, int men) {
            if (noCounty(c)) {
                return UNKNOWN;
            }
            if (seats < 0 || seats > 99 || men < 0 || men > 99) {
                return OUTSIDE;
            }
            List<int[]> fits = new ArrayList<>();
            for (int set = 0; set < 1 << now.barns.size(); set++) {
                World w = now.copy();
                boolean own = true;
                int shut = 0;
                for (int b = 0; b < w.barns.size(); b++) {
                    boolean in = (set >> b & 1) == 1;
                    if (w.barns.get(b).county == c) {
                        w.barns.get(b).shut = !in;
                        shut += in ? 0 : 1;
                    } else if (in) {
                        own = false;
                    }
                }
                int souls = own ? behindAYear(w).souls(c) : 0;
                if (own && souls / s >= seats && souls / m <= men) {
                    fits.add(new int[] {shut, set});
                }
            }
            fits.sort(Comparator.<int[]>comparingInt(f -> f[0]).thenComparingInt(f -> f[1]));
            return fits.isEmpty() ? NONE : fits.get(0)[1];
        }

        int counters(int c) {
            if (noCounty(c)) {
                return UNKNOWN;
            }
            int one = 0;
            int other = 0;
            for (Barn b : now.barns) {
                if (b.county == c) {
                    one += b.nests == 1 ? 0 : b.nests;
                    other += b.nests == 0 ? 0 : b.nests + 1;
                }
            }
            return Math.abs(one - other);
        }

        int[] gains(int c, int d, int a, int z) {
            World w = now.copy();
            for (Barn b : w.barns) {
                boolean pools = b.county == c && a == 2 || b.county == d && z == 2;
                boolean smoke = b.county == c && z == 1 || b.county == d && a == 1;
                b.far = pools ? Math.max(0, b.far - 2) : b.far;
                b.far = smoke ? b.far + 2 : b.far;
            }
            w = behindAYear(w);
            int lead = w.souls(c) / s - w.souls(d) / s;
            return new int[] {lead - Math.min(a, 1), -lead - Math.min(z, 1)};
        }

        int game(int c, int d, int i) {
            if (noCounty(c) || noCounty(d) || c == d) {
                return UNKNOWN;
            }
            List<Integer> pairs = new ArrayList<>();
            for (int a = 0; a < 3; a++) {
                for (int z = 0; z < 3; z++) {
                    boolean rests = true;
                    for (int k = 0; k < 3; k++) {
                        rests &= gains(c, d, k, z)[0] <= gains(c, d, a, z)[0];
                        rests &= gains(c, d, a, k)[1] <= gains(c, d, a, z)[1];
                    }
                    if (rests) {
                        pairs.add(10 * a + z);
                    }
                }
            }
            return pick(pairs, i);
        }

        static int pick(List<Integer> list, int i) {
            return i == NONE ? list.size() : i < 0 || i >= list.size() ? NONE : list.get(i);
        }

        int leastMud(int c, int b) {
            if (noCounty(c) || b != NONE && (noBarn(b) || now.barns.get(b).county != c)) {
                return UNKNOWN;
            }
            int without = behindAYear(now).souls(c) / s;
            List<Integer> own = new ArrayList<>();
            for (int k = 0; k < now.barns.size(); k++) {
                if (now.barns.get(k).county == c) {
                    own.add(k);
                }
            }
            int[] best = null;
            int bestSum = 6;
            for (int[] shares : allShares(own.size())) {
                int sum = Arrays.stream(shares).sum();
                if (sum < bestSum) {
                    World w = now.copy();
                    for (int k = 0; k < shares.length; k++) {
                        Barn x = w.barns.get(own.get(k));
                        x.far = Math.max(0, x.far - shares[k]);
                    }
                    if (behindAYear(w).souls(c) / s > without) {
                        best = shares;
                        bestSum = sum;
                    }
                }
            }
            if (best == null) {
                return NONE;
            }
            return b == NONE ? bestSum : best[own.indexOf(b)];
        }

        /** All shares of 5 together at most, those with less ahead first. */
        static List<int[]> allShares(int n) {
            List<int[]> all = new ArrayList<>();
            all.add(new int[0]);
            for (int k = 0; k < n; k++) {
                List<int[]> longer = new ArrayList<>();
                for (int[] head : all) {
                    for (int more = 0; more + Arrays.stream(head).sum() <= 5; more++) {
                        int[] next = Arrays.copyOf(head, k + 1);
                        next[k] = more;
                        longer.add(next);
                    }
                }
                all = longer;
            }
            return all;
        }

        int votes(int c) {
            return noCounty(c) ? UNKNOWN : now.barns.stream().filter(b -> b.county == c).mapToInt(b -> b.rings).sum();
        }

        int elected() {
            int most = NONE;
            int who = NONE;
            for (int c = counties - 1; c >= 0; c--) {
                if (votes(c) >= most) {
                    most = votes(c);
                    who = c;
                }
            }
            return who;
        }

        int spring(int n, int q) {
            if (n < 0 || n > 30 || q < 0 || q > 100) {
                return OUTSIDE;
            }
            return n == 0 ? 1000000000 : (int) ((long) spring(n - 1, q) * (100 - q) / 100);
        }

        int moved(int i) {
            List<Integer> ways = new ArrayList<>();
            for (int from = 0; from < now.barns.size(); from++) {
                for (int to = 0; to < now.barns.size(); to++) {
                    for (int n = 1; n <= 5; n++) {
                        World kept = now.copy();
                        List<World> keptHistory = new ArrayList<>(history);
                        if (move(from, to, n) >= 0) {
                            World next = behindAYear(now);
                            if (seen.stream().allMatch(e -> next.barns.get(e[0]).nests == e[1])) {
                                ways.add(100 * from + 10 * to + n);
                            }
                        }
                        now = kept;
                        history = keptHistory;
                    }
                }
            }
            ways.sort(null);
            return pick(ways, i);
        }

        /** All NESTS that a BARN can have: each number is tried against each ROUGH count of it. */
        List<Integer> can(int b) {
            List<Integer> list = new ArrayList<>();
            for (int n = 0; n <= now.barns.get(b).eaves; n++) {
                boolean fits = true;
                for (int[] e : rough) {
                    if ((e[0] >> b & 1) == 1) {
                        int most = n;
                        for (int k = 0; k < now.barns.size(); k++) {
                            most += k != b && (e[0] >> k & 1) == 1 ? now.barns.get(k).eaves : 0;
                        }
                        fits &= n <= e[1] && e[1] <= most;
                    }
                }
                if (fits) {
                    list.add(n);
                }
            }
            return list;
        }

        int span(int b, int what) {
            if (noBarn(b)) {
                return UNKNOWN;
            }
            if (what != 0 && what != 1) {
                return OUTSIDE;
            }
            List<Integer> list = can(b);
            return list.isEmpty() ? NONE : list.get(what * (list.size() - 1));
        }

        int uncounted() {
            int set = 0;
            for (int b = 0; b < now.barns.size(); b++) {
                set += can(b).size() == 1 ? 0 : 1 << b;
            }
            return set;
        }

        int enter(List<int[]> list, int who, int number, int mostNumber, int mostEntries, boolean known) {
            if (!known) {
                return UNKNOWN;
            }
            if (number < 0 || number > mostNumber) {
                return OUTSIDE;
            }
            if (list.size() == mostEntries) {
                return FULL;
            }
            list.add(new int[] {who, number});
            return list.size();
        }

        int tear() {
            int had = seen.size() + rough.size() + book.size();
            seen.clear();
            rough.clear();
            book.clear();
            return had;
        }

        int judge() {
            for (int e = 0; e < book.size(); e++) {
                if (now.souls(book.get(e)[0]) != book.get(e)[1]) {
                    return e;
                }
            }
            return NONE;
        }

        int seed(int v) {
            if (v < 0) {
                return OUTSIDE;
            }
            int was = (int) now.seed;
            now.seed = v;
            return was;
        }

        int keep(int i) {
            if (i != 0 && i != 1) {
                return UNKNOWN;
            }
            images[i] = now.copy();
            history.clear();
            return 1;
        }

        int goBack(int i) {
            if (i != 0 && i != 1) {
                return UNKNOWN;
            }
            if (images[i] == null) {
                return NOT;
            }
            now = images[i].copy();
            history.clear();
            return 1;
        }
    }

    // ---------------------------------------------------------------- FAULTS by a regular expression

    private static final String NUMBER = "[0-9]+", T = clause("t", 3), B = clause("b", 5);
    private static final String W = "w *" + NUMBER + " *(, *" + NUMBER + " *){0,7};";
    private static final Pattern TEXT = Pattern.compile(" *(" + T + " *((" + T + "|" + B + "|" + W + ") *)*)?");
    private static final Pattern NUMBERS_AND_WORDS = Pattern.compile("[0-9]+|[tbw]");

    private static String clause(String word, int numbers) {
        return word + " *" + NUMBER + (" +" + NUMBER).repeat(numbers - 1) + " *;";
    }

    /** The place and the number of the first FAULT; null: none. */
    private static int[] faultOf(String t) {
        int place = t.length() + 1;
        int number = 0;
        for (int p = 0; p < t.length() && number == 0; p++) {
            Matcher matcher = TEXT.matcher(t.substring(0, p + 1));
            if (!matcher.matches() && !matcher.hitEnd()) {
                place = p;
                number = 1;
            }
        }
        if (number == 0 && !TEXT.matcher(t).matches()) {
            place = t.length();
            number = 1;
        }
        int[] other = faultOfNumbers(t.substring(0, Math.min(place, t.length())));
        if (other != null) {
            return other;
        }
        return number == 0 ? null : new int[] {place, number};
    }

    /** The first FAULT of 2, 3, 4 in what can stand. */
    private static int[] faultOfNumbers(String t) {
        Matcher matcher = NUMBERS_AND_WORDS.matcher(t);
        String word = "";
        Map<String, Integer> words = new TreeMap<>();
        int index = 0;
        int counties = 0;
        int eaves = 0;
        while (matcher.find()) {
            String found = matcher.group();
            if (Character.isLetter(found.charAt(0))) {
                word = found;
                index = 0;
                if (words.merge(word, 1, Integer::sum) > (word.equals("b") ? 8 : 1)) {
                    return new int[] {matcher.start(), 3};
                }
                continue;
            }
            int value = found.length() > 3 ? 1000 : Integer.parseInt(found);
            int[] bounds = boundsOf(word, index, counties);
            if (value < bounds[0] || value > bounds[1]) {
                return new int[] {matcher.start(), 2};
            }
            if (word.equals("b") && index == 2 && value > eaves) {
                return new int[] {matcher.start(), 4};
            }
            counties = word.equals("t") && index == 0 ? value : counties;
            eaves = word.equals("b") && index == 1 ? value : eaves;
            index++;
        }
        return null;
    }

    private static int[] boundsOf(String word, int index, int counties) {
        if (word.equals("t")) {
            return index == 0 ? new int[] {1, 4} : new int[] {1, 30};
        }
        if (word.equals("w")) {
            return new int[] {0, 9};
        }
        return new int[][] {{0, counties - 1}, {0, 40}, {0, 40}, {0, 9}, {0, 3}}[index];
    }

    // ---------------------------------------------------------------- draws of the test

    private static long draws = 20260101L;

    private static int draw(int n) {
        draws = draws * 6364136223846793005L + 1442695040888963407L;
        return (int) Long.remainderUnsigned(draws >>> 33, n);
    }

    private static boolean oneOf(int n) {
        return draw(n) == 0;
    }

    private static int between(int low, int high) {
        return low + draw(high - low + 1);
    }

    /** Mostly within bounds, at their edges more often; now and then just or far outside. */
    private static int near(int low, int high) {
        switch (draw(24)) {
            case 0: return low - 1;
            case 1: return high + 1;
            case 2: return oneOf(4) ? Integer.MIN_VALUE : low;
            case 3: return oneOf(4) ? Integer.MAX_VALUE : high;
            default: return between(low, high);
        }
    }

    private static String goodText() {
        int counties = between(1, 4);
        StringBuilder t = new StringBuilder();
        t.append('t').append(counties).append(' ').append(oneOf(2) ? between(1, 5) : between(1, 30))
            .append(' ').append(between(1, 30)).append(';');
        int barns = oneOf(3) ? 8 : draw(9);
        int rainAt = draw(barns + 2);
        for (int b = 0; b <= barns; b++) {
            if (b == rainAt) {
                t.append('w').append(draw(10));
                for (int k = draw(8); k > 0; k--) {
                    t.append(',').append(draw(10));
                }
                t.append(';');
            }
            if (b < barns) {
                int eaves = oneOf(8) ? 0 : between(1, 40);
                int nests = oneOf(5) ? eaves : draw(eaves + 1);
                t.append('b').append(oneOf(3) ? 0 : draw(counties)).append(' ').append(eaves).append(' ').append(nests)
                    .append(' ').append(oneOf(2) ? draw(4) : draw(10)).append(' ').append(oneOf(2) ? 0 : draw(4)).append(';');
            }
        }
        if (oneOf(10)) {
            // as long as THE TEXT can be, or longer
            t.insert(oneOf(2) ? 0 : t.length(), " ".repeat(Math.max(0, between(238, 242) - t.length())));
        }
        return t.toString();
    }

    private static String spoiled(String text) {
        StringBuilder t = new StringBuilder(text);
        String letters = "tbw;, 0123456789x";
        for (int k = between(1, 3); k > 0 && t.length() > 0; k--) {
            int at = draw(t.length());
            char letter = letters.charAt(draw(letters.length()));
            switch (draw(6)) {
                case 0: t.deleteCharAt(at); break;
                case 1: t.setCharAt(at, letter); break;
                case 2: t.insert(at, letter); break;
                case 3: t.insert(at, ' '); break;
                case 4: t.setLength(at); break;
                default: t.append(letter); break;
            }
        }
        return t.toString();
    }

    // ---------------------------------------------------------------- the runs

    /** Nothing is promised of an object behind so many calls. */
    private static final int MOST_CALLS = 512;
    /** What lookAtAll() takes of these at most: told() and 9 answers for each of 8 BARNS and 2 that there are not. */
    private static final int CALLS_TO_LOOK = 17 + 10 * 9;
    private static final int CALLS_TO_GROW_OLD = 180;
    private static final int CALLS_OF_A_STEP = 31;

    private static int wrong = 0;
    private static int callsOfRun = 0;
    private static final Map<String, Integer> ANSWERS = new TreeMap<>();
    private static final StringBuilder TRACE = new StringBuilder();

    private static void due(String call, int got, int want) {
        String name = call.substring(0, call.indexOf('('));
        String sort = want == NONE ? "NONE" : want == UNKNOWN ? "UNKNOWN" : want == OUTSIDE ? "OUTSIDE"
            : want == NOT ? "NOT" : want == FULL ? "FULL" : want == 0 ? "0" : want < 0 ? "FAULT" : "more";
        ANSWERS.merge(name + " " + sort, 1, Integer::sum);
        callsOfRun++;
        TRACE.append("  ").append(call).append(" = ").append(want).append('\n');
        if (got != want) {
            wrong++;
            System.out.println(call + " answered " + got + ", due is " + want);
            if (wrong == 1) {
                System.out.println("the run up to there:\n" + TRACE);
            }
        }
    }

    private static void beginRun() {
        TRACE.setLength(0);
        callsOfRun = 0;
    }

    /** So many calls more, and a look at all, are within what is promised. */
    private static boolean room(int calls) {
        return callsOfRun + calls + CALLS_TO_LOOK <= MOST_CALLS;
    }

    private static void landIn(SwallowCount x, Model y, String text) {
        for (int k = 0; k < text.length(); k++) {
            due("feed(" + (int) text.charAt(k) + ")", x.feed(text.charAt(k)), y.feed(text.charAt(k)));
        }
        due("land() of '" + text + "'", x.land(), y.land());
        due("fault()", x.fault(), y.faultPlace);
    }

    private static void oneDone(SwallowCount x, Model y) {
        int b = near(0, Math.max(0, y.now.barns.size() - 1));
        int to = near(0, Math.max(0, y.now.barns.size() - 1));
        int few = oneOf(8) ? near(1, 40) : between(1, 6);
        switch (draw(8)) {
            case 0: case 1: {
                int n = oneOf(4) ? near(1, 99) : 1;
                due("year(" + n + ")", x.year(n), y.years(n, false));
                break;
            }
            case 2: due("open(" + b + ", true)", x.open(b, true), y.open(b, true)); break;
            case 3: due("open(" + b + ", false)", x.open(b, false), y.open(b, false)); break;
            case 4: due("move(" + b + ", " + to + ", " + few + ")", x.move(b, to, few), y.move(b, to, few)); break;
            case 5: {
                int n = oneOf(3) ? near(1, 9) : 1;
                due("mud(" + b + ", " + n + ")", x.mud(b, n), y.mud(b, n));
                break;
            }
            case 6: due("ring(" + b + ", " + few + ")", x.ring(b, few), y.ring(b, few)); break;
            default: {
                int n = oneOf(4) ? near(1, 99) : 1;
                due("drift(" + n + ")", x.drift(n), y.years(n, true));
                break;
            }
        }
    }

    private static void oneTried(SwallowCount x, Model y) {
        int c = near(0, Math.max(0, y.counties - 1));
        int d = near(0, Math.max(0, y.counties - 1));
        switch (draw(8)) {
            case 0: {
                int n = oneOf(2) ? near(0, 60) : draw(3);
                int what = near(0, 2);
                due("count(" + c + ", " + n + ", " + what + ")", x.count(c, n, what), y.count(c, n, what));
                break;
            }
            case 1: {
                int souls = y.noCounty(c) ? 0 : y.now.souls(c);
                int seats = oneOf(4) || y.s == 0 ? near(0, 99) : Math.max(0, souls / y.s + between(-2, 1));
                int men = oneOf(4) || y.m == 0 ? near(0, 99) : Math.max(0, souls / y.m + between(-2, 2));
                due("leave(" + c + ", " + seats + ", " + men + ")", x.leave(c, seats, men), y.leave(c, seats, men));
                break;
            }
            case 2: due("counters(" + c + ")", x.counters(c), y.counters(c)); break;
            case 3: {
                int i = near(-1, 3);
                due("game(" + c + ", " + d + ", " + i + ")", x.game(c, d, i), y.game(c, d, i));
                break;
            }
            case 4: {
                int b = oneOf(3) ? NONE : near(-1, Math.max(0, y.now.barns.size() - 1));
                due("leastMud(" + c + ", " + b + ")", x.leastMud(c, b), y.leastMud(c, b));
                break;
            }
            case 5: due("votes(" + c + ")", x.votes(c), y.votes(c)); break;
            case 6: due("elected()", x.elected(), y.elected()); break;
            default: {
                int n = near(0, 30);
                int q = near(0, 100);
                due("spring(" + n + ", " + q + ")", x.spring(n, q), y.spring(n, q));
                break;
            }
        }
    }

    private static void oneSeen(SwallowCount x, Model y) {
        int barns = y.now.barns.size();
        int b = near(0, Math.max(0, barns - 1));
        int c = near(0, Math.max(0, y.counties - 1));
        switch (draw(9)) {
            case 0: {
                int likely = y.noBarn(b) ? 0 : Math.min(40, y.behindAYear(y.now).barns.get(b).nests + draw(2));
                int n = oneOf(3) ? near(0, 40) : likely;
                due("see(" + b + ", " + n + ")", x.see(b, n), y.enter(y.seen, b, n, 40, 8, !y.noBarn(b)));
                break;
            }
            case 1: {
                int i = oneOf(2) ? NONE : near(-1, 20);
                due("moved(" + i + ")", x.moved(i), y.moved(i));
                break;
            }
            case 2: {
                int set = oneOf(12) ? near(0, 255) : draw(1 << barns);
                boolean known = set >= 0 && set < 1 << barns;
                int likely = 0;
                for (int k = 0; k < barns; k++) {
                    likely += (set >> k & 1) == 1 ? draw(y.now.barns.get(k).eaves + 1) : 0;
                }
                int n = oneOf(6) ? near(0, 320) : likely;
                due("rough(" + set + ", " + n + ")", x.rough(set, n), y.enter(y.rough, set, n, 320, 8, known));
                break;
            }
            case 3: {
                int what = near(0, 1);
                due("span(" + b + ", " + what + ")", x.span(b, what), y.span(b, what));
                break;
            }
            case 4: due("uncounted()", x.uncounted(), y.uncounted()); break;
            case 5: case 6: {
                int n = oneOf(6) || y.noCounty(c) ? near(0, 320) : y.now.souls(c);
                due("write(" + c + ", " + n + ")", x.write(c, n), y.enter(y.book, c, n, 320, 15, !y.noCounty(c)));
                break;
            }
            case 7: if (oneOf(8)) { due("tear()", x.tear(), y.tear()); } break;
            default: due("judge()", x.judge(), y.judge()); break;
        }
    }

    private static void oneOther(SwallowCount x, Model y) {
        switch (draw(5)) {
            case 0: {
                int v = near(0, 100000) * (oneOf(2) ? 20011 : 1);
                due("seed(" + v + ")", x.seed(v), y.seed(v));
                break;
            }
            case 1: {
                int i = near(0, 1);
                if (oneOf(3)) {
                    due("keep(" + i + ")", x.keep(i), y.keep(i));
                }
                break;
            }
            case 2: {
                int i = near(0, 1);
                due("goBack(" + i + ")", x.goBack(i), y.goBack(i));
                break;
            }
            case 3: {
                for (int k = draw(oneOf(10) ? 30 : 3); k >= 0; k--) {
                    due("undo()", x.undo(), y.undo());
                }
                break;
            }
            default: {
                int letter = near(0, 255);
                due("feed(" + letter + ")", x.feed(letter), y.feed(letter));
                break;
            }
        }
    }

    private static void lookAtAll(SwallowCount x, Model y) {
        for (int what = -1; what <= 15; what++) {
            due("told(" + what + ")", x.told(what), y.told(what));
        }
        for (int b = -1; b <= y.now.barns.size(); b++) {
            for (int what = -1; what <= 7; what++) {
                due("barn(" + b + ", " + what + ")", x.barn(b, what), y.barn(b, what));
            }
        }
    }

    /** YEARS near 9000, where year() and drift() end. */
    private static void growOld(SwallowCount x, Model y) {
        for (int k = 0; k < 90; k++) {
            due("year(99)", x.year(99), y.years(99, false));
            due("drift(1)", x.drift(1), y.years(1, true));
        }
    }

    private static void oneRun() {
        beginRun();
        SwallowCount x = new SwallowCount();
        Model y = new Model();
        if (!oneOf(20)) {
            landIn(x, y, goodText());
        }
        if (oneOf(25) && room(CALLS_TO_GROW_OLD)) {
            growOld(x, y);
        }
        for (int k = 0; k < MOST_CALLS && wrong < 5 && room(CALLS_OF_A_STEP); k++) {
            int sort = draw(40);
            if (sort < 16) {
                oneDone(x, y);
            } else if (sort < 26) {
                oneTried(x, y);
            } else if (sort < 36) {
                oneSeen(x, y);
            } else if (sort < 39) {
                oneOther(x, y);
            } else if (oneOf(3)) {
                String text = oneOf(2) ? spoiled(goodText()) : goodText();
                if (room(text.length() + 2)) {
                    landIn(x, y, text);
                }
            }
            if (k % 40 == 20 && room(CALLS_TO_LOOK)) {
                lookAtAll(x, y);
            }
        }
        lookAtAll(x, y);
        if (callsOfRun > MOST_CALLS) {
            wrong++;
            System.out.println("a run of " + callsOfRun + " calls");
        }
    }

    private static void textsAlone() {
        for (int k = 0; k < 3000 && wrong < 5; k++) {
            beginRun();
            SwallowCount x = new SwallowCount();
            Model y = new Model();
            landIn(x, y, oneOf(10) ? goodText() : spoiled(goodText()));
            lookAtAll(x, y);
        }
    }

    /** If draws no longer reach an answer, the runs would say nothing of it. */
    private static void whatMustHaveCome() {
        String[] must = {"feed FULL", "feed OUTSIDE", "land() FAULT", "year more", "year OUTSIDE", "year NOT", "year FULL",
            "open UNKNOWN", "open 0", "move more", "move UNKNOWN", "move OUTSIDE", "move NOT", "mud more", "mud 0", "ring more",
            "ring NOT", "drift more", "drift NOT", "drift FULL", "undo more", "undo 0", "undo NOT", "count more", "leave more",
            "leave 0", "leave NONE", "counters more", "game more", "game 0", "game NONE", "leastMud more", "leastMud 0",
            "leastMud NONE", "leastMud UNKNOWN", "votes more", "elected more", "elected 0", "elected NONE", "spring more",
            "spring 0", "see more", "see FULL", "moved more", "moved 0", "moved NONE", "rough more", "rough UNKNOWN",
            "rough OUTSIDE", "rough FULL", "span more", "span 0", "span NONE", "uncounted more", "uncounted 0", "write more",
            "write FULL", "tear more", "judge more", "judge 0", "judge NONE", "seed more", "keep more", "goBack more", "goBack NOT"};
        for (String sort : must) {
            if (!ANSWERS.containsKey(sort.replace("()", ""))) {
                wrong++;
                System.out.println("no run came to: " + sort);
            }
        }
    }

    public static void main(String[] args) {
        int runs = args.length > 0 ? Integer.parseInt(args[0]) : 2000;
        draws = args.length > 1 ? Long.parseLong(args[1]) : draws;
        textsAlone();
        for (int k = 0; k < runs && wrong < 5; k++) {
            oneRun();
        }
        whatMustHaveCome();
        System.out.println(wrong == 0 ? "all answers are as due" : wrong + " answers are not as due");
        if (args.length > 0) {
            System.out.println(ANSWERS);
        }
        if (wrong != 0) {
            System.exit(1);
        }
    }
}
