import java.util.Arrays;

/**
 * A laundry for the dead: who is boiled, who is dry, who is home when.
 *
 * Every row that a call needs is made in the constructor and used again, because all calls of a run
 * share one room that is never swept.
 */
public final class MangleLine {
    public static final int BAD = -1, STATE = -2, FULL = -3, NONE = -4;

    private static final int MOST_ONES = 6;
    private static final int KIND_COUNT = 4;
    private static final int MOST_GREY = 60;
    private static final int MOST_WET = 20;
    private static final int MOST_SUN = 9;
    private static final int WEEK = 7;
    private static final int LAST_DAY = 999;
    private static final int MOST_DAYS = 30;

    private static final int WICKED = 1, CREASED = 2, NAPKIN = 3;
    private static final int HEAP = 0, LINE = 1, HOME = 2;
    private static final int PLACE_COUNT = 3;

    private static final int BLUE = 0, BATCH = 1, PEGS = 2, PASS = 3, SOAK = 4;
    private static final int RULE_COUNT = 5;
    private static final int[] RULE_LEAST = {0, 1, 0, 0, 1};
    private static final int[] RULE_MOST = {9, 6, 6, 30, 20};
    private static final int[] RULE_AT_FIRST = {3, 2, 3, 0, 8};
    private static final int SUN_AT_FIRST = 4;
    private static final int BLEACHING_SUN = 5;

    /** The farthest day that is looked at; NEVER stands behind it so that "sooner" is one comparison. */
    private static final int FARTHEST = 60;
    private static final int NEVER = FARTHEST + 1;

    private static final int TENTHS = 10;
    private static final int MOST_RAINS = 8;
    /** In place of a ONE where all of them are asked for. */
    private static final int ALL = -1;

    private static final int MOST_SEEN = 6;
    private static final int LAST_LOOK = 20;
    private static final int GREYS_TOLD_APART = 31;

    private static final int IMAGE_COUNT = 2;
    private static final int SHEET_COUNT = 4;
    private static final int MOST_READ = 20;
    private static final int NULL_FAULT = 1, INDEX_FAULT = 2, CAST_FAULT = 3, SIZE_FAULT = 4;

    private final Laundry now = new Laundry();
    private final Laundry trial = new Laundry();
    private final Laundry[] weathers = new Laundry[MOST_RAINS + 1];
    private final Tape tape = new Tape();
    private final Script script = new Script(tape);
    private final Sightings seen = new Sightings();
    private final Choice choice = new Choice();
    private final int[] tallies = new int[(LAST_LOOK + 1) * MOST_ONES * PLACE_COUNT];
    private final Image[] images = new Image[IMAGE_COUNT];
    private final Sheet[] sheets = new Sheet[SHEET_COUNT];
    private int readFault;

    public MangleLine() {
        for (int d = 0; d < weathers.length; d++) {
            weathers[d] = new Laundry();
        }
        for (int k = 0; k < images.length; k++) {
            images[k] = new Image();
        }
        for (int k = 0; k < sheets.length; k++) {
            sheets[k] = new Sheet();
        }
    }

    // ---- the text

    public int feed(int c) {
        if (!within(c, 0, 127)) {
            return BAD;
        }
        return tape.append(c) ? tape.length : FULL;
    }

    public int end(int n) {
        int had = tape.length;
        if (!within(n, 0, had)) {
            return BAD;
        }
        tape.length = n;
        return had;
    }

    public int text() {
        int answer = script.tell(trial);
        tape.length = 0;
        if (answer >= 0) {
            now.become(trial);
            seen.size = 0;
            for (int k = 0; k < images.length; k++) {
                images[k].kept = false;
            }
        }
        return answer;
    }

    public int fault() {
        return script.fault;
    }

    public int rule(int what) {
        switch (what) {
            case 0: return now.size;
            case 1: return now.day;
            case 2: return now.whoIsAt(HEAP);
            case 3: return now.whoIsAt(LINE);
            case 4: return now.whoIsAt(HOME);
            case 5: return now.greyOfAll();
            case 6: return now.sunToday();
            default: return BAD;
        }
    }

    public int told(int what) {
        return within(what, 0, RULE_COUNT - 1) ? now.rules[what] : BAD;
    }

    public int one(int i, int what) {
        if (!isOne(i)) {
            return BAD;
        }
        switch (what) {
            case 0: return now.kinds[i];
            case 1: return now.greys[i];
            case 2: return now.wets[i];
            case 3: return now.places[i];
            case 4: return now.scrubs(i);
            case 5: return now.dries(i, now.sunToday());
            default: return BAD;
        }
    }

    public int sun(int d) {
        return isWeekday(d) ? now.suns[d] : BAD;
    }

    // ---- what is changed

    public int alter(int i, int what, int v) {
        if (!isOne(i)) {
            return BAD;
        }
        switch (what) {
            case 0: return replace(now.kinds, i, v, KIND_COUNT - 1);
            case 1: return replace(now.greys, i, v, MOST_GREY);
            case 2: return replace(now.wets, i, v, MOST_WET);
            default: return BAD;
        }
    }

    public int set(int what, int v) {
        if (!within(what, 0, RULE_COUNT - 1) || v < RULE_LEAST[what]) {
            return BAD;
        }
        return replace(now.rules, what, v, RULE_MOST[what]);
    }

    public int shine(int d, int v) {
        return isWeekday(d) ? replace(now.suns, d, v, MOST_SUN) : BAD;
    }

    public int bring(int kind, int grey) {
        return now.admit(kind, grey);
    }

    public int fetch(int i) {
        if (!isOne(i)) {
            return BAD;
        }
        int was = now.places[i];
        if (was == HEAP) {
            return STATE;
        }
        now.places[i] = HEAP;
        return was;
    }

    // ---- days

    public int days(int n) {
        if (!within(n, 0, MOST_DAYS)) {
            return BAD;
        }
        if (now.day + n > LAST_DAY) {
            return FULL;
        }
        return now.passDays(n);
    }

    public int runs(int n, int what) {
        if (!within(n, 0, FARTHEST)) {
            return BAD;
        }
        trial.become(now);
        int boiled = 0;
        int idle = 0;
        for (int d = 0; d < n; d++) {
            trial.passDay(trial.sunToday());
            boiled += trial.boiled;
            idle += trial.boiled == 0 ? 1 : 0;
        }
        switch (what) {
            case 0: return Integer.bitCount(trial.whoIsAt(HOME));
            case 1: return trial.greyOfAll();
            case 2: return trial.whoIsAt(LINE);
            case 3: return boiled;
            case 4: return idle;
            default: return BAD;
        }
    }

    public int ahead(int i, int n, int what) {
        if (!isOne(i) || !within(n, 0, FARTHEST)) {
            return BAD;
        }
        trial.become(now);
        trial.passDays(n);
        switch (what) {
            case 0: return trial.greys[i];
            case 1: return trial.wets[i];
            case 2: return trial.places[i];
            default: return BAD;
        }
    }

    public int home(int i) {
        if (!isOne(i)) {
            return BAD;
        }
        trial.become(now);
        return orNone(trial.daysTillHome(i, FARTHEST));
    }

    public int done() {
        return orNone(daysAsItIs());
    }

    // ---- what is best

    public int blue(int n) {
        return leastOfRule(BLUE, n);
    }

    public int pegs(int n) {
        return leastOfRule(PEGS, n);
    }

    public int batch(int what) {
        if (!isHalf(what)) {
            return BAD;
        }
        choice.begin(NEVER);
        for (int v = RULE_LEAST[BATCH]; v <= RULE_MOST[BATCH]; v++) {
            trial.become(now);
            trial.rules[BATCH] = v;
            choice.offer(v, trial.daysTillDone(FARTHEST));
        }
        return choice.tell(what);
    }

    public int swap(int what) {
        if (!isHalf(what)) {
            return BAD;
        }
        choice.begin(daysAsItIs());
        for (int a = 0; a < now.size; a++) {
            for (int b = a + 1; b < now.size; b++) {
                trial.become(now);
                trial.exchange(a, b);
                choice.offer(10 * a + b, trial.daysTillDone(FARTHEST));
            }
        }
        return choice.tell(what);
    }

    public int fair(int what) {
        if (!isHalf(what)) {
            return BAD;
        }
        choice.begin(daysAsItIs());
        for (int d = 0; d < WEEK; d++) {
            trial.become(now);
            trial.suns[d] = MOST_SUN;
            choice.offer(d, trial.daysTillDone(FARTHEST));
        }
        return choice.tell(what);
    }

    public int stain(int i, int n) {
        if (!isOne(i) || !within(n, 0, FARTHEST)) {
            return BAD;
        }
        for (int g = MOST_GREY; g >= 0; g--) {
            trial.become(now);
            trial.greys[i] = g;
            if (trial.daysTillHome(i, n) != NEVER) {
                return g;
            }
        }
        return NONE;
    }

    public int kind(int i, int what) {
        if (!isOne(i) || !isHalf(what)) {
            return BAD;
        }
        choice.begin(NEVER);
        for (int k = 0; k < KIND_COUNT; k++) {
            trial.become(now);
            trial.kinds[i] = k;
            choice.offer(k, trial.daysTillDone(FARTHEST));
        }
        return choice.tell(what);
    }

    // ---- rains

    public long luck(int v, int i, int n, int what) {
        if (!isOne(i)) {
            return BAD;
        }
        return rainFraction(v, i, n, what);
    }

    public long mean(int v, int n, int what) {
        return rainFraction(v, ALL, n, what);
    }

    // ---- from where it was

    public int see(int n, int i, int w) {
        if (!within(n, 0, LAST_LOOK) || !isOne(i) || !within(w, 0, PLACE_COUNT - 1)) {
            return BAD;
        }
        return seen.note(n, i, w) ? seen.size : FULL;
    }

    public int forget(int n) {
        int were = seen.size;
        if (!within(n, 0, were)) {
            return BAD;
        }
        seen.size = n;
        return were;
    }

    public int kinds(int i) {
        if (!isOne(i)) {
            return BAD;
        }
        int bits = 0;
        for (int k = 0; k < KIND_COUNT; k++) {
            trial.become(now);
            trial.kinds[i] = k;
            if (seen.agreeWith(trial)) {
                bits |= 1 << k;
            }
        }
        return bits;
    }

    public int greys(int i) {
        return isOne(i) ? greysAsSeen(i) : BAD;
    }

    public int ask(int i, int what) {
        if (!isOne(i) || !isHalf(what)) {
            return BAD;
        }
        int candidates = greysAsSeen(i);
        tallyPlaces(i, candidates);
        choice.begin(Integer.bitCount(candidates));
        for (int d = 0; d <= LAST_LOOK; d++) {
            for (int who = 0; who < now.size; who++) {
                choice.offer(10 * d + who, mostLeft(d, who));
            }
        }
        return choice.tell(what);
    }

    // ---- by a seed

    public int drift(int seed, int n, int what) {
        if (!within(n, 1, FARTHEST) || !isHalf(what)) {
            return BAD;
        }
        if (now.size < 1) {
            return STATE;
        }
        trial.become(now);
        int turning = seed;
        for (int d = 0; d < n; d++) {
            turning = turning * 1103515245 + 12345;
            int got = (turning >>> 16) & 0x7FFF;
            trial.soil((got / 16) % now.size, (got / 128) % 3);
            trial.passDay(got % 10);
        }
        return what == 0 ? Integer.bitCount(trial.whoIsAt(HOME)) : trial.greyOfAll();
    }

    // ---- images, sheets

    public int keep(int k) {
        if (!within(k, 0, IMAGE_COUNT - 1)) {
            return BAD;
        }
        Image image = images[k];
        int was = image.kept ? 1 : 0;
        image.kept = true;
        image.laundry.become(now);
        image.seen.become(seen);
        return was;
    }

    public int back(int k) {
        if (!within(k, 0, IMAGE_COUNT - 1)) {
            return BAD;
        }
        Image image = images[k];
        if (!image.kept) {
            return STATE;
        }
        now.become(image.laundry);
        seen.become(image.seen);
        return now.day;
    }

    public int sheet(int k, int lane, int n) {
        if (!isSheet(k) || !isLane(lane) || n > Sheet.MOST_CELLS) {
            return BAD;
        }
        if (n < 0) {
            return -10 - SIZE_FAULT;
        }
        sheets[k].renew(lane, n);
        return 1;
    }

    public int lay(int k, int i, int v) {
        if (!isSheet(k)) {
            return BAD;
        }
        Sheet row = sheets[k];
        if (row.isNothing()) {
            return -10 - NULL_FAULT;
        }
        if (!row.hasCell(i)) {
            return -10 - INDEX_FAULT;
        }
        row.write(i, v);
        return 1;
    }

    public int read(int k, int lane, int f, int n) {
        if (!isSheet(k) || !isLane(lane) || !within(n, 0, MOST_READ)) {
            return BAD;
        }
        Sheet row = sheets[k];
        int whole = row.wholePairs(lane, f, n);
        int sizeBefore = now.size;
        for (int i = 0; i < whole; i++) {
            int cell = f + 2 * i;
            if (now.admit(row.cells[cell], row.cells[cell + 1]) < 0) {
                now.size = sizeBefore;
                return -20 - i;
            }
        }
        readFault = row.faultOfReading(lane, whole < n);
        return whole;
    }

    public int torn() {
        return readFault;
    }

    public int count(int what) {
        switch (what) {
            case 0: return seen.size;
            case 1: return imagesKept();
            case 2: return tape.length;
            case 3: return sheets[0].isNothing() ? NONE : sheets[0].length;
            case 4: return now.wetOfAll();
            case 5: return now.sunOfAll();
            default: return BAD;
        }
    }

    // ---- what the calls share

    private static boolean within(int v, int least, int most) {
        return v >= least && v <= most;
    }

    private static boolean isHalf(int what) {
        return within(what, 0, 1);
    }

    private static boolean isWeekday(int d) {
        return within(d, 0, WEEK - 1);
    }

    private static boolean isSheet(int k) {
        return within(k, 0, SHEET_COUNT - 1);
    }

    private static boolean isLane(int lane) {
        return within(lane, 0, Sheet.INTS);
    }

    private boolean isOne(int i) {
        return within(i, 0, now.size - 1);
    }

    private static int replace(int[] row, int at, int v, int most) {
        if (!within(at, 0, row.length - 1) || !within(v, 0, most)) {
            return BAD;
        }
        int was = row[at];
        row[at] = v;
        return was;
    }

    private int imagesKept() {
        int kept = 0;
        for (int k = 0; k < images.length; k++) {
            kept += images[k].kept ? 1 : 0;
        }
        return kept;
    }

    private int daysAsItIs() {
        trial.become(now);
        return trial.daysTillDone(FARTHEST);
    }

    private static int orNone(int days) {
        return days == NEVER ? NONE : days;
    }

    private int leastOfRule(int which, int n) {
        if (!within(n, 0, FARTHEST)) {
            return BAD;
        }
        for (int v = RULE_LEAST[which]; v <= RULE_MOST[which]; v++) {
            trial.become(now);
            trial.rules[which] = v;
            if (trial.daysTillDone(n) != NEVER) {
                return v;
            }
        }
        return NONE;
    }

    private long rainFraction(int v, int who, int n, int what) {
        if (!within(v, 0, TENTHS) || !within(n, 0, MOST_RAINS) || !isHalf(what)) {
            return BAD;
        }
        weathers[0].become(now);
        long over = weigh(0, n, v, who);
        long under = 1;
        for (int d = 0; d < n; d++) {
            under *= TENTHS;
        }
        return inLowestTerms(over, under, n, what);
    }

    /** What is asked of who, summed over every weather from the depth-th day on, each by its weight. */
    private long weigh(int depth, int n, int v, int who) {
        if (depth >= n || depth >= MOST_RAINS) {
            return worth(weathers[depth], who);
        }
        long sum = 0;
        if (v > 0) {
            sum += v * weighUnder(0, depth, n, v, who);
        }
        if (v < TENTHS) {
            sum += (TENTHS - v) * weighUnder(weathers[depth].sunToday(), depth, n, v, who);
        }
        return sum;
    }

    private long weighUnder(int sky, int depth, int n, int v, int who) {
        Laundry next = weathers[depth + 1];
        next.become(weathers[depth]);
        next.passDay(sky);
        return weigh(depth + 1, n, v, who);
    }

    private static long worth(Laundry laundry, int who) {
        if (who == ALL) {
            return laundry.greyOfAll();
        }
        return laundry.places[who] == HOME ? 1 : 0;
    }

    /** The denominator is 10 to the n-th, so that nothing but 2 and 5 can be common. */
    private static long inLowestTerms(long over, long under, int n, int what) {
        for (int d = 0; d < n; d++) {
            if (over % 2 == 0 && under % 2 == 0) {
                over /= 2;
                under /= 2;
            }
            if (over % 5 == 0 && under % 5 == 0) {
                over /= 5;
                under /= 5;
            }
        }
        return what == 0 ? over : under;
    }

    private int greysAsSeen(int i) {
        int bits = 0;
        for (int g = 0; g < GREYS_TOLD_APART; g++) {
            trial.become(now);
            trial.greys[i] = g;
            if (seen.agreeWith(trial)) {
                bits |= 1 << g;
            }
        }
        return bits;
    }

    /** For each day and each ONE: by how many of the candidates it is in each place. */
    private void tallyPlaces(int i, int candidates) {
        Arrays.fill(tallies, 0);
        for (int g = 0; g < GREYS_TOLD_APART; g++) {
            if ((candidates >> g & 1) == 0) {
                continue;
            }
            trial.become(now);
            trial.greys[i] = g;
            for (int d = 0; d <= LAST_LOOK; d++) {
                for (int who = 0; who < trial.size; who++) {
                    tallies[tallyAt(d, who) + trial.places[who]]++;
                }
                trial.passDay(trial.sunToday());
            }
        }
    }

    private static int tallyAt(int d, int who) {
        return (d * MOST_ONES + who) * PLACE_COUNT;
    }

    private int mostLeft(int d, int who) {
        int at = tallyAt(d, who);
        return Math.max(tallies[at + HEAP], Math.max(tallies[at + LINE], tallies[at + HOME]));
    }

    /** All that a day changes: as it is now, as it is tried, or as an image has it. */
    private static final class Laundry {
        private int size;
        private int day;
        /** How many the copper took on the latest day. */
        private int boiled;
        private final int[] kinds = new int[MOST_ONES];
        private final int[] greys = new int[MOST_ONES];
        private final int[] wets = new int[MOST_ONES];
        private final int[] places = new int[MOST_ONES];
        private final int[] rules = new int[RULE_COUNT];
        private final int[] suns = new int[WEEK];

        private Laundry() {
            clear();
        }

        private void clear() {
            size = 0;
            day = 0;
            System.arraycopy(RULE_AT_FIRST, 0, rules, 0, RULE_COUNT);
            Arrays.fill(suns, SUN_AT_FIRST);
        }

        private void become(Laundry other) {
            size = other.size;
            day = other.day;
            System.arraycopy(other.kinds, 0, kinds, 0, MOST_ONES);
            System.arraycopy(other.greys, 0, greys, 0, MOST_ONES);
            System.arraycopy(other.wets, 0, wets, 0, MOST_ONES);
            System.arraycopy(other.places, 0, places, 0, MOST_ONES);
            System.arraycopy(other.rules, 0, rules, 0, RULE_COUNT);
            System.arraycopy(other.suns, 0, suns, 0, WEEK);
        }

        private int admit(int kind, int grey) {
            if (!within(kind, 0, KIND_COUNT - 1) || !within(grey, 0, MOST_GREY)) {
                return BAD;
            }
            if (size >= MOST_ONES) {
                return FULL;
            }
            kinds[size] = kind;
            greys[size] = grey;
            wets[size] = 0;
            places[size] = HEAP;
            size++;
            return size;
        }

        private void exchange(int a, int b) {
            exchangeIn(kinds, a, b);
            exchangeIn(greys, a, b);
            exchangeIn(wets, a, b);
            exchangeIn(places, a, b);
        }

        private static void exchangeIn(int[] row, int a, int b) {
            int held = row[a];
            row[a] = row[b];
            row[b] = held;
        }

        private void soil(int i, int more) {
            greys[i] = Math.min(MOST_GREY, greys[i] + more);
        }

        private int scrubs(int i) {
            int blue = rules[BLUE];
            switch (kinds[i]) {
                case WICKED: return blue / 2;
                case NAPKIN: return blue < 2 ? 0 : blue / 2 - 1;
                default: return blue;
            }
        }

        private int dries(int i, int sky) {
            switch (kinds[i]) {
                case CREASED: return sky / 2;
                case NAPKIN: return 2 * sky;
                default: return sky;
            }
        }

        private int sunToday() {
            return suns[day % WEEK];
        }

        private int passDays(int n) {
            int cameHome = 0;
            for (int d = 0; d < n; d++) {
                cameHome += passDay(sunToday());
            }
            return cameHome;
        }

        /** Nobody leaves HOME by itself: who is HOME first on a day is so behind every later one. */
        private int daysTillHome(int i, int most) {
            for (int d = 0; d <= most; d++) {
                if (places[i] == HOME) {
                    return d;
                }
                passDay(sunToday());
            }
            return NEVER;
        }

        private int daysTillDone(int most) {
            for (int d = 0; d <= most; d++) {
                if (allAreHome()) {
                    return d;
                }
                passDay(sunToday());
            }
            return NEVER;
        }

        /** Tells how many came HOME on it. */
        private int passDay(int sky) {
            boilBatch();
            int cameHome = dryLine(sky);
            day++;
            return cameHome;
        }

        private void boilBatch() {
            int pegged = Integer.bitCount(whoIsAt(LINE));
            boiled = 0;
            for (int i = 0; i < size && boiled < rules[BATCH]; i++) {
                if (places[i] == HEAP) {
                    boiled++;
                    greys[i] = Math.max(0, greys[i] - scrubs(i));
                    wets[i] = rules[SOAK];
                    if (pegged < rules[PEGS]) {
                        places[i] = LINE;
                        pegged++;
                    }
                }
            }
        }

        private int dryLine(int sky) {
            int cameHome = 0;
            int bleach = sky >= BLEACHING_SUN ? 1 : 0;
            for (int i = 0; i < size; i++) {
                if (places[i] == LINE) {
                    wets[i] = Math.max(0, wets[i] - dries(i, sky));
                    greys[i] = Math.max(0, greys[i] - bleach);
                    if (wets[i] == 0) {
                        boolean passes = greys[i] <= rules[PASS];
                        places[i] = passes ? HOME : HEAP;
                        cameHome += passes ? 1 : 0;
                    }
                }
            }
            return cameHome;
        }

        private int whoIsAt(int place) {
            int bits = 0;
            for (int i = 0; i < size; i++) {
                if (places[i] == place) {
                    bits |= 1 << i;
                }
            }
            return bits;
        }

        private boolean allAreHome() {
            for (int i = 0; i < size; i++) {
                if (places[i] != HOME) {
                    return false;
                }
            }
            return true;
        }

        private int greyOfAll() {
            return sumOf(greys, size);
        }

        private int wetOfAll() {
            return sumOf(wets, size);
        }

        private int sunOfAll() {
            return sumOf(suns, WEEK);
        }

        private static int sumOf(int[] row, int n) {
            int sum = 0;
            for (int i = 0; i < n && i < row.length; i++) {
                sum += row[i];
            }
            return sum;
        }
    }

    /** What was SEEN: behind how many days, who, where. */
    private static final class Sightings {
        private int size;
        private final int[] looks = new int[MOST_SEEN];
        private final int[] whos = new int[MOST_SEEN];
        private final int[] places = new int[MOST_SEEN];

        private boolean note(int look, int who, int place) {
            if (size >= MOST_SEEN) {
                return false;
            }
            looks[size] = look;
            whos[size] = who;
            places[size] = place;
            size++;
            return true;
        }

        private void become(Sightings other) {
            size = other.size;
            System.arraycopy(other.looks, 0, looks, 0, MOST_SEEN);
            System.arraycopy(other.whos, 0, whos, 0, MOST_SEEN);
            System.arraycopy(other.places, 0, places, 0, MOST_SEEN);
        }

        /** Runs the trial on, no farther than the last look. */
        private boolean agreeWith(Laundry trial) {
            int last = lastLook();
            for (int d = 0; d <= last; d++) {
                if (!agreeOn(d, trial)) {
                    return false;
                }
                trial.passDay(trial.sunToday());
            }
            return true;
        }

        private int lastLook() {
            int last = -1;
            for (int s = 0; s < size; s++) {
                last = Math.max(last, looks[s]);
            }
            return last;
        }

        private boolean agreeOn(int d, Laundry trial) {
            for (int s = 0; s < size; s++) {
                if (looks[s] == d && trial.places[whos[s]] != places[s]) {
                    return false;
                }
            }
            return true;
        }
    }

    /** The offer with the least cost; the earlier one stays where two cost the same. */
    private static final class Choice {
        private int pick = NONE;
        private int cost;

        /** Only what costs less than this is taken. */
        private void begin(int ceiling) {
            pick = NONE;
            cost = ceiling;
        }

        private void offer(int offered, int itsCost) {
            if (itsCost < cost) {
                pick = offered;
                cost = itsCost;
            }
        }

        private int tell(int what) {
            return what == 0 || pick == NONE ? pick : cost;
        }
    }

    private static final class Image {
        private boolean kept;
        private final Laundry laundry = new Laundry();
        private final Sightings seen = new Sightings();
    }

    /** A row of CELLS of a lane, or nothing. */
    private static final class Sheet {
        private static final int NOTHING = -1, BYTES = 0, SHORTS = 1, INTS = 2;
        private static final int MOST_CELLS = 40;

        private int lane = NOTHING;
        private int length;
        private final int[] cells = new int[MOST_CELLS];

        private void renew(int newLane, int newLength) {
            lane = newLane;
            length = newLength;
            Arrays.fill(cells, 0);
        }

        private boolean isNothing() {
            return lane == NOTHING;
        }

        private boolean hasCell(int i) {
            return within(i, 0, length - 1);
        }

        private void write(int i, int v) {
            switch (lane) {
                case BYTES: cells[i] = (byte) v; break;
                case SHORTS: cells[i] = (short) v; break;
                default: cells[i] = v; break;
            }
        }

        private boolean isAnotherLane(int asLane) {
            return !isNothing() && lane != asLane;
        }

        /** How many pairs of CELLS, most at the most, can be read from a CELL on. */
        private int wholePairs(int asLane, int from, int most) {
            if (isNothing() || isAnotherLane(asLane) || !hasCell(from)) {
                return 0;
            }
            return Math.min(most, (length - from) / 2);
        }

        /** Why the pair that was read next was not whole; nothing is read 0 times, so then nothing is refused. */
        private int faultOfReading(int asLane, boolean cutShort) {
            if (!cutShort) {
                return 0;
            }
            if (isNothing()) {
                return NULL_FAULT;
            }
            return isAnotherLane(asLane) ? CAST_FAULT : INDEX_FAULT;
        }
    }

    /** THE TAPE, and the TOKEN that was read of it last. */
    private static final class Tape {
        private static final int MOST_BYTES = 160;
        private static final int SPOILT = 0, NAME = 1, NUMBER = 2, STOP = 3, OVER = 4;
        private static final int LONGEST_NUMBER = 2;
        private static final int WORD_COUNT = 10;

        private final int[] bytes = new int[MOST_BYTES];
        private int length;
        private int at;
        private int token;
        private int start;
        private int number;

        private boolean append(int c) {
            if (length >= MOST_BYTES) {
                return false;
            }
            bytes[length] = c;
            length++;
            return true;
        }

        private void rewind() {
            at = 0;
        }

        private void readToken() {
            while (at < length && bytes[at] == ' ') {
                at++;
            }
            start = at;
            token = at < length ? tokenWith(bytes[at]) : OVER;
            if (token == STOP) {
                at++;
            } else if (token == NAME || token == NUMBER) {
                while (at < length && tokenWith(bytes[at]) == token) {
                    at++;
                }
            }
            if (token == NUMBER) {
                readFigures();
            }
        }

        private void readFigures() {
            if (at - start > LONGEST_NUMBER) {
                token = SPOILT;
                return;
            }
            number = 0;
            for (int c = start; c < at; c++) {
                number = number * 10 + bytes[c] - '0';
            }
        }

        /** Of which sort of TOKEN a byte is part. */
        private static int tokenWith(int c) {
            if (c >= 'a' && c <= 'z') {
                return NAME;
            }
            if (c >= '0' && c <= '9') {
                return NUMBER;
            }
            return c == ';' ? STOP : SPOILT;
        }

        /** Which word the NAME is, or NONE. */
        private int word() {
            for (int w = 0; w < WORD_COUNT; w++) {
                if (isSpelt(wordOf(w))) {
                    return w;
                }
            }
            return NONE;
        }

        /** The kinds by their numbers, then the rules by theirs, then the sun. */
        private static String wordOf(int w) {
            switch (w) {
                case 0: return "plain";
                case 1: return "wicked";
                case 2: return "creased";
                case 3: return "napkin";
                case 4: return "blue";
                case 5: return "batch";
                case 6: return "pegs";
                case 7: return "pass";
                case 8: return "soak";
                default: return "sun";
            }
        }

        private boolean isSpelt(String letters) {
            if (letters.length() != at - start) {
                return false;
            }
            for (int c = 0; c < letters.length(); c++) {
                if (bytes[start + c] != letters.charAt(c)) {
                    return false;
                }
            }
            return true;
        }
    }

    /** Reads lines of THE TAPE until it is over or a FAULT is met. */
    private static final class Script {
        private static final int FIRST_RULE_WORD = KIND_COUNT;
        private static final int SUN_WORD = KIND_COUNT + RULE_COUNT;
        private static final int NO_TOKEN = 1, MISPLACED = 2, OUT_OF_BOUNDS = 3, TWICE = 4, TOO_MANY = 5;

        private final Tape tape;
        /** Of the latest text; 0 where it was taken. */
        private int fault;
        private int faultPlace;
        /** Which of the words that stand once have stood (bits). */
        private int stood;

        private Script(Tape tape) {
            this.tape = tape;
        }

        /** How many lines there are, the draft having become what they tell; or the refusal. */
        private int tell(Laundry draft) {
            fault = 0;
            stood = 0;
            draft.clear();
            tape.rewind();
            for (int lines = 0; lines <= Tape.MOST_BYTES; lines++) {
                boolean taken = takeToken();
                if (taken && tape.token == Tape.OVER) {
                    return lines;
                }
                if (!taken || !tellLine(draft)) {
                    break;
                }
            }
            return -10 - faultPlace;
        }

        private boolean blame(int which) {
            fault = which;
            faultPlace = tape.start;
            return false;
        }

        private boolean takeToken() {
            tape.readToken();
            return tape.token != Tape.SPOILT || blame(NO_TOKEN);
        }

        private boolean tellLine(Laundry draft) {
            int word = tape.token == Tape.NAME ? tape.word() : NONE;
            if (word < 0) {
                return blame(MISPLACED);
            }
            if (word < FIRST_RULE_WORD) {
                return tellOne(draft, word);
            }
            if ((stood >> word & 1) != 0) {
                return blame(TWICE);
            }
            stood |= 1 << word;
            return word == SUN_WORD ? tellSuns(draft) : tellRule(draft, word - FIRST_RULE_WORD);
        }

        private boolean tellOne(Laundry draft, int kind) {
            if (draft.size >= MOST_ONES) {
                return blame(TOO_MANY);
            }
            if (!takeToken() || !isNumber(0, MOST_GREY)) {
                return false;
            }
            draft.admit(kind, tape.number);
            return takeToken() && isStop();
        }

        private boolean tellRule(Laundry draft, int which) {
            if (!takeToken() || !isNumber(RULE_LEAST[which], RULE_MOST[which])) {
                return false;
            }
            draft.rules[which] = tape.number;
            return takeToken() && isStop();
        }

        private boolean tellSuns(Laundry draft) {
            for (int d = 0; d <= WEEK; d++) {
                if (!takeToken()) {
                    return false;
                }
                if (tape.token == Tape.STOP) {
                    return true;
                }
                // An 8th NUMBER is one too many ahead of its bounds; without a NUMBER there is no 8th SUN.
                if (d == WEEK) {
                    return blame(tape.token == Tape.NUMBER ? TOO_MANY : MISPLACED);
                }
                if (!isNumber(0, MOST_SUN)) {
                    return false;
                }
                draft.suns[d] = tape.number;
            }
            return false;
        }

        private boolean isNumber(int least, int most) {
            if (tape.token != Tape.NUMBER) {
                return blame(MISPLACED);
            }
            return within(tape.number, least, most) || blame(OUT_OF_BOUNDS);
        }

        private boolean isStop() {
            return tape.token == Tape.STOP || blame(MISPLACED);
        }
    }
}
