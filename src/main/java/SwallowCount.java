import java.util.Arrays;

/** People counted by swallows, a nest a soul: the promises of DOC.md. */
public final class SwallowCount {
    public static final int NONE = -1, UNKNOWN = -1000000001, OUTSIDE = -1000000002, NOT = -1000000003, FULL = -1000000004;

    private static final int MOST_LETTERS = 240;
    private static final int MOST_COUNTIES = 4;
    private static final int MOST_SOULS_EACH = 30;
    private static final int MOST_BARNS = 8;
    private static final int MOST_EAVES = 40;
    private static final int MOST_FAR = 9;
    private static final int MOST_RAINS = 8;
    private static final int MOST_RAIN = 9;
    private static final int RAIN_UNTOLD = 5;
    private static final int RAIN_OF_ONE_MORE = 8;
    private static final int RAINS_DRAWN = 10;
    private static final int LOWER_31_BITS = 0x7fffffff;

    private static final int CAT = 1, GLAZED = 2, MILL = 3;

    private static final int CANNOT_STAND = 1, OUT_OF_BOUNDS = 2, ONE_TOO_MANY = 3, ABOVE_EAVES = 4;

    private static final int MOST_TOGETHER = MOST_BARNS * MOST_EAVES;
    private static final int MOST_AT_ONCE = 99;
    private static final int LAST_YEAR = 9000;
    private static final int MOST_TRIED_YEARS = 60;
    private static final int MOST_WANTED = 99;
    private static final int MOST_MOVED_BY_NIGHT = 5;
    private static final int MOST_MUD_TRIED = 5;
    private static final int MOST_MUD_LAID = 9;
    private static final int MOST_SEEN = 8, MOST_ROUGH = 8, MOST_WRITTEN = 15;
    private static final int MOST_SPRINGS = 30;
    private static final int HUNDRED = 100, BILLION = 1000000000;
    private static final int MOST_UNDONE = 20;
    private static final int IMAGES = 2;
    private static final int SMOKE = 1, POOLS = 2, DEEDS = 3, BY_A_DEED = 2;

    private final Text text = new Text();
    private Land land = new Land();
    private Land draft = new Land();
    private final Flock now = new Flock();
    private final Flock trial = new Flock();
    private final History history = new History();
    private final Shelf images = new Shelf(IMAGES);
    private final int[] imageSeeds = new int[IMAGES];
    private int imagesKept;
    private final Entries seen = new Entries(MOST_SEEN);
    private final Entries roughCounts = new Entries(MOST_ROUGH);
    private final Entries book = new Entries(MOST_WRITTEN);
    private final int[] mudTried = new int[MOST_BARNS];
    private final int[] leads = new int[DEEDS * DEEDS];
    private int theSeed;

    public SwallowCount() {
    }

    // ---- the land

    public int feed(int letter) {
        if (letter < 0 || letter > 255) {
            return OUTSIDE;
        }
        return text.append(letter) ? text.length : FULL;
    }

    public int land() {
        boolean stands = text.readInto(draft);
        text.length = 0;
        if (!stands) {
            return -10 - text.faultNumber;
        }
        Land old = land;
        land = draft;
        draft = old;
        now.settle(land);
        history.clear();
        imagesKept = 0;
        forgetEntries();
        return land.barns;
    }

    public int fault() {
        return text.faultPlace;
    }

    public int told(int what) {
        switch (what) {
            case 0: return land.counties;
            case 1: return land.soulsASeat;
            case 2: return land.soulsAMan;
            case 3: return land.barns;
            case 4: return text.length;
            case 5: return now.years;
            case 6: return land.rainOf(now.years);
            case 7: return now.shut;
            case 8: return sumOver(now.nests, land.allBarns());
            case 9: return now.lost;
            case 10: return sumOver(now.rings, land.allBarns());
            case 11: return seen.size;
            case 12: return roughCounts.size;
            case 13: return book.size;
            case 14: return history.size;
            default: return OUTSIDE;
        }
    }

    public int barn(int b, int what) {
        if (!land.hasBarn(b)) {
            return UNKNOWN;
        }
        switch (what) {
            case 0: return land.county[b];
            case 1: return land.eaves[b];
            case 2: return now.nests[b];
            case 3: return now.far[b];
            case 4: return land.kind[b];
            case 5: return now.rings[b];
            case 6: return now.isShut(b) ? 1 : 0;
            default: return OUTSIDE;
        }
    }

    // ---- what is done

    public int year(int n) {
        int refusal = refusalOfYears(n);
        if (refusal != 0) {
            return refusal;
        }
        history.remember(now);
        for (int k = 0; k < n; k++) {
            now.passYear(land, land.rainOf(now.years));
        }
        return sumOver(now.nests, land.allBarns());
    }

    public int open(int b, boolean is) {
        if (!land.hasBarn(b)) {
            return UNKNOWN;
        }
        history.remember(now);
        int wasOpen = now.isShut(b) ? 0 : 1;
        now.shut = is ? now.shut & ~(1 << b) : now.shut | 1 << b;
        return wasOpen;
    }

    public int move(int from, int to, int n) {
        if (!land.hasBarn(from) || !land.hasBarn(to) || from == to) {
            return UNKNOWN;
        }
        if (n < 1 || n > MOST_EAVES) {
            return OUTSIDE;
        }
        if (!canCarry(from, to, n)) {
            return NOT;
        }
        history.remember(now);
        now.carry(from, to, n);
        return now.nests[to];
    }

    public int mud(int b, int n) {
        if (!land.hasBarn(b)) {
            return UNKNOWN;
        }
        if (n < 1 || n > MOST_MUD_LAID) {
            return OUTSIDE;
        }
        history.remember(now);
        now.bringNearer(b, n);
        return now.far[b];
    }

    public int ring(int b, int n) {
        if (!land.hasBarn(b)) {
            return UNKNOWN;
        }
        if (n < 1 || n > MOST_EAVES) {
            return OUTSIDE;
        }
        if (now.rings[b] + n > now.nests[b]) {
            return NOT;
        }
        history.remember(now);
        now.rings[b] += n;
        return now.rings[b];
    }

    public int drift(int n) {
        int refusal = refusalOfYears(n);
        if (refusal != 0) {
            return refusal;
        }
        history.remember(now);
        for (int k = 0; k < n; k++) {
            now.passYear(land, drawRain());
        }
        return sumOver(now.nests, land.allBarns());
    }

    public int undo() {
        return history.bringBack(now) ? history.size : NOT;
    }

    // ---- tried

    public int count(int c, int n, int what) {
        if (!land.hasCounty(c)) {
            return UNKNOWN;
        }
        if (n < 0 || n > MOST_TRIED_YEARS || what < 0 || what > 2) {
            return OUTSIDE;
        }
        trial.copyFrom(now);
        for (int k = 0; k < n; k++) {
            passTrialYear();
        }
        int souls = soulsOf(trial, c);
        switch (what) {
            case 0: return souls;
            case 1: return land.seatsFor(souls);
            default: return land.menFor(souls);
        }
    }

    public int leave(int c, int seats, int men) {
        if (!land.hasCounty(c)) {
            return UNKNOWN;
        }
        if (seats < 0 || seats > MOST_WANTED || men < 0 || men > MOST_WANTED) {
            return OUTSIDE;
        }
        int own = land.barnsOf(c);
        int best = NONE;
        for (int set = 0; set <= own; set++) {
            boolean ofOwn = (set & ~own) == 0;
            boolean moreOpen = best == NONE || Integer.bitCount(set) > Integer.bitCount(best);
            if (ofOwn && moreOpen && leavingServes(c, set, seats, men)) {
                best = set;
            }
        }
        return best;
    }

    public int counters(int c) {
        if (!land.hasCounty(c)) {
            return UNKNOWN;
        }
        int one = 0;
        int other = 0;
        for (int b = 0; b < land.barns; b++) {
            int nests = now.nests[b];
            if (land.county[b] == c && nests > 0) {
                one += nests >= 2 ? nests : 0;
                other += nests + 1;
            }
        }
        return other - one;
    }

    public int game(int c, int d, int i) {
        if (!land.hasCounty(c) || !land.hasCounty(d) || c == d) {
            return UNKNOWN;
        }
        if (i < NONE) {
            return NONE;
        }
        playAllPairs(c, d);
        int found = 0;
        for (int first = 0; first < DEEDS; first++) {
            for (int other = 0; other < DEEDS; other++) {
                if (nobodyWouldLeave(first, other)) {
                    if (found == i) {
                        return 10 * first + other;
                    }
                    found++;
                }
            }
        }
        return i == NONE ? found : NONE;
    }

    public int leastMud(int c, int b) {
        if (!land.hasCounty(c)) {
            return UNKNOWN;
        }
        if (b != NONE && (!land.hasBarn(b) || land.county[b] != c)) {
            return UNKNOWN;
        }
        int together = findLeastMud(c);
        if (together == NONE || b == NONE) {
            return together;
        }
        return mudTried[b];
    }

    public int votes(int c) {
        return land.hasCounty(c) ? votesOf(c) : UNKNOWN;
    }

    public int elected() {
        int best = NONE;
        for (int c = 0; c < land.counties; c++) {
            if (best == NONE || votesOf(c) > votesOf(best)) {
                best = c;
            }
        }
        return best;
    }

    public int spring(int n, int q) {
        if (n < 0 || n > MOST_SPRINGS || q < 0 || q > HUNDRED) {
            return OUTSIDE;
        }
        long odds = BILLION;
        for (int k = 0; k < n; k++) {
            odds = odds * (HUNDRED - q) / HUNDRED;
        }
        return (int) odds;
    }

    // ---- what was seen

    public int see(int b, int nests) {
        if (!land.hasBarn(b)) {
            return UNKNOWN;
        }
        if (nests < 0 || nests > MOST_EAVES) {
            return OUTSIDE;
        }
        return seen.add(b, nests);
    }

    public int moved(int i) {
        if (i < NONE) {
            return NONE;
        }
        int found = 0;
        for (int from = 0; from < land.barns; from++) {
            for (int to = 0; to < land.barns; to++) {
                for (int n = 1; n <= MOST_MOVED_BY_NIGHT; n++) {
                    if (wouldExplain(from, to, n)) {
                        if (found == i) {
                            return 100 * from + 10 * to + n;
                        }
                        found++;
                    }
                }
            }
        }
        return i == NONE ? found : NONE;
    }

    public int rough(int set, int nests) {
        if ((set & ~land.allBarns()) != 0) {
            return UNKNOWN;
        }
        if (nests < 0 || nests > MOST_TOGETHER) {
            return OUTSIDE;
        }
        return roughCounts.add(set, nests);
    }

    public int span(int b, int what) {
        if (!land.hasBarn(b)) {
            return UNKNOWN;
        }
        if (what < 0 || what > 1) {
            return OUTSIDE;
        }
        int least = leastIn(b);
        int most = mostIn(b);
        if (least > most) {
            return NONE;
        }
        return what == 0 ? least : most;
    }

    public int uncounted() {
        int set = 0;
        for (int b = 0; b < land.barns; b++) {
            if (leastIn(b) != mostIn(b)) {
                set |= 1 << b;
            }
        }
        return set;
    }

    public int write(int c, int souls) {
        if (!land.hasCounty(c)) {
            return UNKNOWN;
        }
        if (souls < 0 || souls > MOST_TOGETHER) {
            return OUTSIDE;
        }
        return book.add(c, souls);
    }

    public int tear() {
        int had = seen.size + roughCounts.size + book.size;
        forgetEntries();
        return had;
    }

    public int judge() {
        for (int e = 0; e < book.size; e++) {
            if (soulsOf(now, book.whose[e]) != book.number[e]) {
                return e;
            }
        }
        return NONE;
    }

    // ---- draws, images

    public int seed(int v) {
        if (v < 0) {
            return OUTSIDE;
        }
        int was = theSeed;
        theSeed = v;
        return was;
    }

    public int keep(int i) {
        if (i < 0 || i >= IMAGES) {
            return UNKNOWN;
        }
        images.put(i, now);
        imageSeeds[i] = theSeed;
        imagesKept |= 1 << i;
        history.clear();
        return 1;
    }

    public int goBack(int i) {
        if (i < 0 || i >= IMAGES) {
            return UNKNOWN;
        }
        if ((imagesKept >> i & 1) == 0) {
            return NOT;
        }
        images.take(i, now);
        theSeed = imageSeeds[i];
        history.clear();
        return 1;
    }

    // ---- helpers of what is done

    /** A refusal of n YEARS, or 0 if they may pass. */
    private int refusalOfYears(int n) {
        if (n < 1 || n > MOST_AT_ONCE) {
            return OUTSIDE;
        }
        if (land.counties == 0) {
            return NOT;
        }
        return now.years > LAST_YEAR ? FULL : 0;
    }

    private int drawRain() {
        // int arithmetic wraps at 2 to the 32, so the lower 31 bits are what is left over by 2 to the 31
        theSeed = theSeed * 1103515245 + 12345 & LOWER_31_BITS;
        return theSeed / 65536 % RAINS_DRAWN;
    }

    private void forgetEntries() {
        seen.size = 0;
        roughCounts.size = 0;
        book.size = 0;
    }

    private boolean canCarry(int from, int to, int n) {
        return now.nests[from] >= n && now.nests[to] + n <= land.eaves[to];
    }

    // ---- helpers of what is tried

    private static int sumOver(int[] numbers, int set) {
        int sum = 0;
        for (int b = 0; b < numbers.length; b++) {
            if ((set >> b & 1) != 0) {
                sum += numbers[b];
            }
        }
        return sum;
    }

    private int soulsOf(Flock flock, int c) {
        return sumOver(flock.nests, land.barnsOf(c));
    }

    private int votesOf(int c) {
        return sumOver(now.rings, land.barnsOf(c));
    }

    private void passTrialYear() {
        trial.passYear(land, land.rainOf(trial.years));
    }

    private int trialSeats(int c) {
        return land.seatsFor(soulsOf(trial, c));
    }

    private boolean leavingServes(int c, int set, int seats, int men) {
        int own = land.barnsOf(c);
        trial.copyFrom(now);
        trial.shut = trial.shut & ~own | own & ~set;
        passTrialYear();
        return trialSeats(c) >= seats && land.menFor(soulsOf(trial, c)) <= men;
    }

    private void playAllPairs(int c, int d) {
        for (int first = 0; first < DEEDS; first++) {
            for (int other = 0; other < DEEDS; other++) {
                trial.copyFrom(now);
                digPools(c, first);
                digPools(d, other);
                // smoke comes behind pools: the 0 at least of pools would else swallow some of it
                makeSmoke(d, first);
                makeSmoke(c, other);
                passTrialYear();
                leads[first * DEEDS + other] = trialSeats(c) - trialSeats(d);
            }
        }
    }

    private void digPools(int c, int deed) {
        for (int b = 0; b < land.barns; b++) {
            if (deed == POOLS && land.county[b] == c) {
                trial.bringNearer(b, BY_A_DEED);
            }
        }
    }

    private void makeSmoke(int against, int deed) {
        for (int b = 0; b < land.barns; b++) {
            if (deed == SMOKE && land.county[b] == against) {
                trial.far[b] += BY_A_DEED;
            }
        }
    }

    private boolean nobodyWouldLeave(int first, int other) {
        for (int k = 0; k < DEEDS; k++) {
            boolean firstWould = gainOfFirst(k, other) > gainOfFirst(first, other);
            boolean otherWould = gainOfOther(first, k) > gainOfOther(first, other);
            if (firstWould || otherWould) {
                return false;
            }
        }
        return true;
    }

    private int gainOfFirst(int first, int other) {
        return leads[first * DEEDS + other] - (first == 0 ? 0 : 1);
    }

    private int gainOfOther(int first, int other) {
        return -leads[first * DEEDS + other] - (other == 0 ? 0 : 1);
    }

    /** The least MUD together, its shares in mudTried; NONE. */
    private int findLeastMud(int c) {
        Arrays.fill(mudTried, 0);
        int wanted = seatsWithMud(c) + 1;
        // MUD never makes SOULS fewer: if the most for every BARN is not enough, no share of it is
        Arrays.fill(mudTried, MOST_MUD_TRIED);
        if (seatsWithMud(c) < wanted) {
            return NONE;
        }
        Arrays.fill(mudTried, 0);
        for (int together = 1; together <= MOST_MUD_TRIED; together++) {
            if (sharesServe(this, c, 0, together, wanted)) {
                return together;
            }
        }
        return NONE;
    }

    /**
     * Shares what is left of MUD among BARNS from b on, less ahead; b grows with the depth. Static, since LANGUAGE.md lets
     * a private static method call itself and names no other one that does.
     */
    private static boolean sharesServe(SwallowCount of, int c, int b, int left, int wanted) {
        if (left == 0) {
            return of.seatsWithMud(c) >= wanted;
        }
        if (!of.land.hasBarn(b)) {
            return false;
        }
        int most = Math.min(left, of.usefulMud(c, b));
        for (int share = 0; share <= most; share++) {
            of.mudTried[b] = share;
            if (sharesServe(of, c, b + 1, left - share, wanted)) {
                return true;
            }
        }
        of.mudTried[b] = 0;
        return false;
    }

    /** More than this changes nothing, so it is never in the least MUD. */
    private int usefulMud(int c, int b) {
        boolean hasYoung = !now.isShut(b) && land.kind[b] != GLAZED;
        return land.county[b] == c && hasYoung ? now.far[b] : 0;
    }

    private int seatsWithMud(int c) {
        trial.copyFrom(now);
        for (int b = 0; b < land.barns; b++) {
            if (land.county[b] == c) {
                trial.bringNearer(b, mudTried[b]);
            }
        }
        passTrialYear();
        return trialSeats(c);
    }

    // ---- helpers of what was seen

    private boolean wouldExplain(int from, int to, int n) {
        if (from == to || !canCarry(from, to, n)) {
            return false;
        }
        trial.copyFrom(now);
        trial.carry(from, to, n);
        passTrialYear();
        for (int e = 0; e < seen.size; e++) {
            if (trial.nests[seen.whose[e]] != seen.number[e]) {
                return false;
            }
        }
        return true;
    }

    private int leastIn(int b) {
        int least = 0;
        for (int e = 0; e < roughCounts.size; e++) {
            int set = roughCounts.whose[e];
            if ((set >> b & 1) != 0) {
                int eavesOfOthers = sumOver(land.eaves, set & ~(1 << b));
                least = Math.max(least, roughCounts.number[e] - eavesOfOthers);
            }
        }
        return least;
    }

    private int mostIn(int b) {
        int most = land.eaves[b];
        for (int e = 0; e < roughCounts.size; e++) {
            if ((roughCounts.whose[e] >> b & 1) != 0) {
                most = Math.min(most, roughCounts.number[e]);
            }
        }
        return most;
    }

    // ---- classes inside

    /** THE LAND as the text told it: nothing in it changes by YEARS. */
    private static final class Land {
        private int counties;
        private int soulsASeat;
        private int soulsAMan;
        private int barns;
        private int rains;
        private final int[] county = new int[MOST_BARNS];
        private final int[] eaves = new int[MOST_BARNS];
        private final int[] nestsAtFirst = new int[MOST_BARNS];
        private final int[] farAtFirst = new int[MOST_BARNS];
        private final int[] kind = new int[MOST_BARNS];
        private final int[] rain = new int[MOST_RAINS];

        /** Rows keep what they had: nothing is read beyond barns and rains. */
        private void clear() {
            counties = 0;
            soulsASeat = 0;
            soulsAMan = 0;
            barns = 0;
            rains = 0;
        }

        private boolean hasBarn(int b) {
            return b >= 0 && b < barns;
        }

        private boolean hasCounty(int c) {
            return c >= 0 && c < counties;
        }

        private int allBarns() {
            return (1 << barns) - 1;
        }

        private int barnsOf(int c) {
            int set = 0;
            for (int b = 0; b < barns; b++) {
                if (county[b] == c) {
                    set |= 1 << b;
                }
            }
            return set;
        }

        private int rainOf(int t) {
            return rains > 0 && t >= 0 ? rain[t % rains] : RAIN_UNTOLD;
        }

        private int seatsFor(int souls) {
            return soulsASeat > 0 ? souls / soulsASeat : 0;
        }

        private int menFor(int souls) {
            return soulsAMan > 0 ? souls / soulsAMan : 0;
        }
    }

    /** What is so now, or would be: NESTS, RINGS, FAR, who is SHUT, LOST ones, YEARS. */
    private static final class Flock {
        private final int[] nests = new int[MOST_BARNS];
        private final int[] rings = new int[MOST_BARNS];
        private final int[] far = new int[MOST_BARNS];
        private final int[] homeless = new int[MOST_COUNTIES];
        private int shut;
        private int lost;
        private int years;

        private void settle(Land land) {
            System.arraycopy(land.nestsAtFirst, 0, nests, 0, MOST_BARNS);
            System.arraycopy(land.farAtFirst, 0, far, 0, MOST_BARNS);
            Arrays.fill(rings, 0);
            shut = 0;
            lost = 0;
            years = 0;
        }

        private void copyFrom(Flock other) {
            System.arraycopy(other.nests, 0, nests, 0, MOST_BARNS);
            System.arraycopy(other.rings, 0, rings, 0, MOST_BARNS);
            System.arraycopy(other.far, 0, far, 0, MOST_BARNS);
            shut = other.shut;
            lost = other.lost;
            years = other.years;
        }

        private boolean isShut(int b) {
            return (shut >> b & 1) != 0;
        }

        private void carry(int from, int to, int n) {
            nests[from] -= n;
            nests[to] += n;
            rings[from] = Math.min(rings[from], nests[from]);
        }

        private void bringNearer(int b, int n) {
            far[b] = Math.max(far[b] - n, 0);
        }

        private void passYear(Land land, int rain) {
            Arrays.fill(homeless, 0);
            for (int b = 0; b < land.barns; b++) {
                if (land.kind[b] == CAT) {
                    takeByCat(b);
                }
                if (isShut(b)) {
                    turnOut(b, land.county[b], 0);
                } else {
                    nests[b] += youngOf(land.kind[b], b, rain);
                    turnOut(b, land.county[b], land.eaves[b]);
                }
            }
            for (int b = 0; b < land.barns; b++) {
                if (!isShut(b)) {
                    takeIn(b, land.county[b], land.eaves[b]);
                }
            }
            for (int c = 0; c < land.counties; c++) {
                lost += homeless[c];
            }
            for (int b = 0; b < land.barns; b++) {
                boolean oneMore = rain >= RAIN_OF_ONE_MORE && !isShut(b) && nests[b] > 0;
                if (oneMore && nests[b] < land.eaves[b]) {
                    nests[b]++;
                }
                rings[b] = Math.min(rings[b], nests[b]);
            }
            years++;
        }

        private void takeByCat(int b) {
            int taken = nests[b] / 3;
            nests[b] -= taken;
            lost += taken;
        }

        private int youngOf(int kind, int b, int rain) {
            int young = nests[b] * Math.max(rain - far[b], 0) / 10;
            switch (kind) {
                case GLAZED: return 0;
                case MILL: return young + young / 2;
                default: return young;
            }
        }

        /** NESTS above so many become HOMELESS. */
        private void turnOut(int b, int c, int stay) {
            int out = Math.max(nests[b] - stay, 0);
            nests[b] -= out;
            homeless[c] += out;
        }

        private void takeIn(int b, int c, int eaves) {
            int in = Math.min(homeless[c], eaves - nests[b]);
            nests[b] += in;
            homeless[c] -= in;
        }
    }

    /** Places for what a Flock holds, in one row of numbers: few objects, none made by a call. */
    private static final class Shelf {
        private static final int AT_RINGS = MOST_BARNS, AT_FAR = 2 * MOST_BARNS, AT_OTHERS = 3 * MOST_BARNS;
        private static final int A_PLACE = AT_OTHERS + 3;
        private final int places;
        private final int[] cells;

        private Shelf(int places) {
            this.places = Math.max(places, 0);
            this.cells = new int[this.places * A_PLACE];
        }

        private void put(int place, Flock flock) {
            if (place < 0 || place >= places) {
                return;
            }
            int at = place * A_PLACE;
            System.arraycopy(flock.nests, 0, cells, at, MOST_BARNS);
            System.arraycopy(flock.rings, 0, cells, at + AT_RINGS, MOST_BARNS);
            System.arraycopy(flock.far, 0, cells, at + AT_FAR, MOST_BARNS);
            cells[at + AT_OTHERS] = flock.shut;
            cells[at + AT_OTHERS + 1] = flock.lost;
            cells[at + AT_OTHERS + 2] = flock.years;
        }

        private void take(int place, Flock flock) {
            if (place < 0 || place >= places) {
                return;
            }
            int at = place * A_PLACE;
            System.arraycopy(cells, at, flock.nests, 0, MOST_BARNS);
            System.arraycopy(cells, at + AT_RINGS, flock.rings, 0, MOST_BARNS);
            System.arraycopy(cells, at + AT_FAR, flock.far, 0, MOST_BARNS);
            flock.shut = cells[at + AT_OTHERS];
            flock.lost = cells[at + AT_OTHERS + 1];
            flock.years = cells[at + AT_OTHERS + 2];
        }
    }

    /** What can be undone, in a ring of places: a new one takes the place of the oldest. */
    private static final class History {
        private final Shelf shelf = new Shelf(MOST_UNDONE);
        private int size;
        private int next;

        private void clear() {
            size = 0;
        }

        private void remember(Flock flock) {
            shelf.put(next, flock);
            next = (next + 1) % MOST_UNDONE;
            size = Math.min(size + 1, MOST_UNDONE);
        }

        private boolean bringBack(Flock flock) {
            if (size == 0) {
                return false;
            }
            next = (next + MOST_UNDONE - 1) % MOST_UNDONE;
            size--;
            shelf.take(next, flock);
            return true;
        }
    }

    /** A short list of who (a BARN, a SET, a COUNTY) had what number. */
    private static final class Entries {
        private final int most;
        private final int[] whose;
        private final int[] number;
        private int size;

        private Entries(int most) {
            this.most = Math.max(most, 0);
            this.whose = new int[this.most];
            this.number = new int[this.most];
        }

        private int add(int who, int what) {
            if (size >= most) {
                return FULL;
            }
            whose[size] = who;
            number[size] = what;
            size++;
            return size;
        }
    }

    /** THE TEXT and its reader, which stops at the first FAULT. */
    private static final class Text {
        private static final int BLANK = 32, END = -1, MOST_FIGURES = 3;
        private final int[] letters = new int[MOST_LETTERS];
        private int length;
        private int at;
        private int faultPlace = NONE;
        private int faultNumber;

        private boolean append(int letter) {
            if (length >= MOST_LETTERS) {
                return false;
            }
            letters[length] = letter;
            length++;
            return true;
        }

        private boolean readInto(Land land) {
            land.clear();
            at = 0;
            faultPlace = NONE;
            faultNumber = 0;
            // each clause takes a letter at least, so the bound is never what ends this
            for (int k = 0; k < MOST_LETTERS && nextLetter() != END; k++) {
                if (!readClause(land)) {
                    return false;
                }
            }
            return true;
        }

        private boolean readClause(Land land) {
            int word = nextLetter();
            if (land.counties == 0 && word != 't') {
                return faulty(at, CANNOT_STAND);
            }
            switch (word) {
                case 't': return land.counties == 0 ? readTreaty(land) : faulty(at, ONE_TOO_MANY);
                case 'b': return land.barns < MOST_BARNS ? readBarn(land) : faulty(at, ONE_TOO_MANY);
                case 'w': return land.rains == 0 ? readRains(land) : faulty(at, ONE_TOO_MANY);
                default: return faulty(at, CANNOT_STAND);
            }
        }

        private boolean readTreaty(Land land) {
            at++;
            int counties = readNumber(1, MOST_COUNTIES);
            int aSeat = counties == NONE ? NONE : readNumber(1, MOST_SOULS_EACH);
            int aMan = aSeat == NONE ? NONE : readNumber(1, MOST_SOULS_EACH);
            if (aMan == NONE) {
                return false;
            }
            land.counties = counties;
            land.soulsASeat = aSeat;
            land.soulsAMan = aMan;
            return readEndOfClause();
        }

        private boolean readBarn(Land land) {
            at++;
            int county = readNumber(0, land.counties - 1);
            int eaves = county == NONE ? NONE : readNumber(0, MOST_EAVES);
            int nests = eaves == NONE ? NONE : readNests(eaves);
            int far = nests == NONE ? NONE : readNumber(0, MOST_FAR);
            int kind = far == NONE ? NONE : readNumber(0, MILL);
            if (kind == NONE || land.barns >= MOST_BARNS) {
                return false;
            }
            int b = land.barns;
            land.county[b] = county;
            land.eaves[b] = eaves;
            land.nestsAtFirst[b] = nests;
            land.farAtFirst[b] = far;
            land.kind[b] = kind;
            land.barns++;
            return readEndOfClause();
        }

        private boolean readRains(Land land) {
            do {
                at++;
                int rain = readNumber(0, MOST_RAIN);
                if (rain == NONE || land.rains >= MOST_RAINS) {
                    return false;
                }
                land.rain[land.rains] = rain;
                land.rains++;
            } while (land.rains < MOST_RAINS && nextLetter() == ',');
            return readEndOfClause();
        }

        private boolean readEndOfClause() {
            if (nextLetter() != ';') {
                return faulty(at, CANNOT_STAND);
            }
            at++;
            return true;
        }

        /** N, or NONE with its FAULT told: no EAVES are for more than MOST_EAVES, so what is above that is out of bounds. */
        private int readNests(int eaves) {
            nextLetter();
            int start = at;
            int nests = readNumber(0, MOST_EAVES);
            if (nests > eaves) {
                faulty(start, ABOVE_EAVES);
                return NONE;
            }
            return nests;
        }

        /** The NUMBER that comes next, or NONE with its FAULT told. */
        private int readNumber(int least, int most) {
            int letter = nextLetter();
            if (letter < '0' || letter > '9') {
                faulty(at, CANNOT_STAND);
                return NONE;
            }
            int start = at;
            int value = 0;
            while (at < length && letters[at] >= '0' && letters[at] <= '9') {
                // further figures are a FAULT: not added, so that no length of them can wrap around
                value = at - start < MOST_FIGURES ? value * 10 + letters[at] - '0' : value;
                at++;
            }
            if (at - start > MOST_FIGURES || value < least || value > most) {
                faulty(start, OUT_OF_BOUNDS);
                return NONE;
            }
            return value;
        }

        /** Passes blanks; END behind the last letter. */
        private int nextLetter() {
            while (at < length && letters[at] == BLANK) {
                at++;
            }
            return at < length ? letters[at] : END;
        }

        private boolean faulty(int place, int number) {
            faultPlace = place;
            faultNumber = number;
            return false;
        }
    }
}
