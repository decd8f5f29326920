import java.math.BigInteger;
import java.util.ArrayList;
import java.util.HashSet;
import java.util.List;
import java.util.Set;
import java.util.function.Predicate;
import java.util.stream.IntStream;

/**
 * The document once more, by other means: worlds that are copied and never shared, the machine's own
 * exceptions for the sheets, every weather and every candidate by plain enumeration.
 */
final class Oracle {
    private static final int BAD = -1, STATE = -2, FULL = -3, NONE = -4;
    private static final String HEAP = "heap", LINE = "line", HOME = "home";
    private static final List<String> PLACES = List.of(HEAP, LINE, HOME);
    private static final List<String> KINDS = List.of("plain", "wicked", "creased", "napkin");
    private static final List<String> RULES = List.of("blue", "batch", "pegs", "pass", "soak");
    private static final int[] LEAST = {0, 1, 0, 0, 1};
    private static final int[] MOST = {9, 6, 6, 30, 20};

    private static final class One {
        String kind;
        int grey;
        int wet;
        String place = HEAP;

        One(String kind, int grey) {
            this.kind = kind;
            this.grey = grey;
        }

        One copy() {
            One c = new One(kind, grey);
            c.wet = wet;
            c.place = place;
            return c;
        }

        int scrubs(int blue) {
            if (kind.equals("plain") || kind.equals("creased")) {
                return blue;
            }
            int wicked = blue / 2;
            return kind.equals("wicked") ? wicked : Math.max(0, wicked - 1);
        }

        int dries(int sun) {
            if (kind.equals("creased")) {
                return sun / 2;
            }
            return kind.equals("napkin") ? sun + sun : sun;
        }
    }

    private static final class World {
        List<One> ones = new ArrayList<>();
        int[] rules = {3, 2, 3, 0, 8};
        int[] suns = {4, 4, 4, 4, 4, 4, 4};
        int day;

        World copy() {
            World c = new World();
            for (One o : ones) {
                c.ones.add(o.copy());
            }
            c.rules = rules.clone();
            c.suns = suns.clone();
            c.day = day;
            return c;
        }

        int sun() {
            return suns[day % 7];
        }

        /** Who was boiled. */
        List<One> step(int sun) {
            List<One> batch = new ArrayList<>();
            for (One o : ones) {
                if (o.place.equals(HEAP)) {
                    batch.add(o);
                }
            }
            while (batch.size() > rules[1]) {
                batch.remove(batch.size() - 1);
            }
            for (One o : batch) {
                o.grey = Math.max(0, o.grey - o.scrubs(rules[0]));
                o.wet = rules[4];
                if (ones.stream().filter(p -> p.place.equals(LINE)).count() < rules[2]) {
                    o.place = LINE;
                }
            }
            for (One o : ones) {
                if (o.place.equals(LINE)) {
                    o.wet = Math.max(0, o.wet - o.dries(sun));
                    if (sun >= 5 && o.grey > 0) {
                        o.grey--;
                    }
                    if (o.wet == 0) {
                        o.place = o.grey <= rules[3] ? HOME : HEAP;
                    }
                }
            }
            day++;
            return batch;
        }

        World behind(int n) {
            World c = copy();
            for (int d = 0; d < n; d++) {
                c.step(c.sun());
            }
            return c;
        }

        boolean done() {
            return ones.stream().allMatch(o -> o.place.equals(HOME));
        }

        int doneBehind() {
            return first(World::done);
        }

        int first(Predicate<World> it) {
            World c = copy();
            for (int n = 0; n <= 60; n++) {
                if (it.test(c)) {
                    return n;
                }
                c.step(c.sun());
            }
            return Integer.MAX_VALUE;
        }

        int bits(String place) {
            return IntStream.range(0, ones.size()).filter(i -> ones.get(i).place.equals(place)).map(i -> 1 << i).sum();
        }

        int grey() {
            return ones.stream().mapToInt(o -> o.grey).sum();
        }
    }

    private World now = new World();
    private StringBuilder tape = new StringBuilder();
    private int fault;
    private int torn;
    private List<int[]> seen = new ArrayList<>();
    private final World[] imageWorlds = new World[2];
    private final List<List<int[]>> imageSeen = new ArrayList<>(List.of(List.of(), List.of()));
    private final Object[] sheets = new Object[4];

    private boolean noOne(int i) {
        return i < 0 || i >= now.ones.size();
    }

    private static boolean out(int v, int least, int most) {
        return v < least || v > most;
    }

    // ---- the text

    int feed(int c) {
        if (out(c, 0, 127)) {
            return BAD;
        }
        if (tape.length() == 160) {
            return FULL;
        }
        tape.append((char) c);
        return tape.length();
    }

    int end(int n) {
        if (out(n, 0, tape.length())) {
            return BAD;
        }
        int had = tape.length();
        tape.setLength(n);
        return had;
    }

    private static final class Fault extends Exception {
        private static final long serialVersionUID = 1L;
        final int number;
        final int place;

        Fault(int number, int place) {
            this.number = number;
            this.place = place;
        }
    }

    /** The place behind the blanks from a place on, and the token there ("" is the end). */
    private record Token(String letters, int place) {
        boolean isNumber() {
            return letters.matches("[0-9]+");
        }

        int behind() {
            return place + letters.length();
        }
    }

    private static Token token(String text, int from) throws Fault {
        int place = from;
        while (place < text.length() && text.charAt(place) == ' ') {
            place++;
        }
        String rest = text.substring(place);
        if (rest.isEmpty()) {
            return new Token("", place);
        }
        java.util.regex.Matcher m = java.util.regex.Pattern.compile("[a-z]+|[0-9]+|;").matcher(rest);
        if (!m.lookingAt() || m.group().matches("[0-9]{3,}")) {
            throw new Fault(1, place);
        }
        return new Token(m.group(), place);
    }

    private static Token number(String text, int from, int least, int most) throws Fault {
        Token t = token(text, from);
        if (!t.isNumber()) {
            throw new Fault(2, t.place);
        }
        if (out(Integer.parseInt(t.letters), least, most)) {
            throw new Fault(3, t.place);
        }
        return t;
    }

    private static int stop(String text, int from) throws Fault {
        Token t = token(text, from);
        if (!t.letters.equals(";")) {
            throw new Fault(2, t.place);
        }
        return t.behind();
    }

    private static int suns(World w, String text, int from) throws Fault {
        int at = from;
        for (int d = 0;; d++) {
            Token t = token(text, at);
            if (t.letters.equals(";")) {
                return t.behind();
            }
            if (d == 7 && t.isNumber()) {
                throw new Fault(5, t.place);
            }
            t = number(text, at, 0, 9);
            w.suns[d] = Integer.parseInt(t.letters);
            at = t.behind();
        }
    }

    private static int line(World w, Set<String> stood, String text, Token name) throws Fault {
        String word = name.letters;
        if (KINDS.contains(word)) {
            if (w.ones.size() == 6) {
                throw new Fault(5, name.place);
            }
            Token t = number(text, name.behind(), 0, 60);
            w.ones.add(new One(word, Integer.parseInt(t.letters)));
            return stop(text, t.behind());
        }
        int rule = RULES.indexOf(word);
        if (rule < 0 && !word.equals("sun")) {
            throw new Fault(2, name.place);
        }
        if (!stood.add(word)) {
            throw new Fault(4, name.place);
        }
        if (rule < 0) {
            return suns(w, text, name.behind());
        }
        Token t = number(text, name.behind(), LEAST[rule], MOST[rule]);
        w.rules[rule] = Integer.parseInt(t.letters);
        return stop(text, t.behind());
    }

    int text() {
        String text = tape.toString();
        tape = new StringBuilder();
        World w = new World();
        Set<String> stood = new HashSet<>();
        int lines = 0;
        try {
            Token t = token(text, 0);
            while (!t.letters.isEmpty()) {
                t = token(text, line(w, stood, text, t));
                lines++;
            }
        } catch (Fault f) {
            fault = f.number;
            return -10 - f.place;
        }
        fault = 0;
        now = w;
        seen = new ArrayList<>();
        imageWorlds[0] = null;
        imageWorlds[1] = null;
        return lines;
    }

    int fault() {
        return fault;
    }

    int rule(int what) {
        return switch (what) {
            case 0 -> now.ones.size();
            case 1 -> now.day;
            case 2 -> now.bits(HEAP);
            case 3 -> now.bits(LINE);
            case 4 -> now.bits(HOME);
            case 5 -> now.grey();
            case 6 -> now.sun();
            default -> BAD;
        };
    }

    int told(int what) {
        return out(what, 0, 4) ? BAD : now.rules[what];
    }

    int one(int i, int what) {
        if (noOne(i)) {
            return BAD;
        }
        One o = now.ones.get(i);
        return switch (what) {
            case 0 -> KINDS.indexOf(o.kind);
            case 1 -> o.grey;
            case 2 -> o.wet;
            case 3 -> PLACES.indexOf(o.place);
            case 4 -> o.scrubs(now.rules[0]);
            case 5 -> o.dries(now.sun());
            default -> BAD;
        };
    }

    int sun(int d) {
        return out(d, 0, 6) ? BAD : now.suns[d];
    }

    // ---- what is changed

    int alter(int i, int what, int v) {
        if (noOne(i) || out(what, 0, 2) || out(v, 0, new int[] {3, 60, 20}[what])) {
            return BAD;
        }
        int was = one(i, what);
        One o = now.ones.get(i);
        if (what == 0) {
            o.kind = KINDS.get(v);
        } else if (what == 1) {
            o.grey = v;
        } else {
            o.wet = v;
        }
        return was;
    }

    int set(int what, int v) {
        if (out(what, 0, 4) || out(v, LEAST[what], MOST[what])) {
            return BAD;
        }
        int was = now.rules[what];
        now.rules[what] = v;
        return was;
    }

    int shine(int d, int v) {
        if (out(d, 0, 6) || out(v, 0, 9)) {
            return BAD;
        }
        int was = now.suns[d];
        now.suns[d] = v;
        return was;
    }

    int bring(int kind, int grey) {
        if (out(kind, 0, 3) || out(grey, 0, 60)) {
            return BAD;
        }
        if (now.ones.size() == 6) {
            return FULL;
        }
        now.ones.add(new One(KINDS.get(kind), grey));
        return now.ones.size();
    }

    int fetch(int i) {
        if (noOne(i)) {
            return BAD;
        }
        One o = now.ones.get(i);
        if (o.place.equals(HEAP)) {
            return STATE;
        }
        int was = PLACES.indexOf(o.place);
        o.place = HEAP;
        return was;
    }

    // ---- days

    int days(int n) {
        if (out(n, 0, 30)) {
            return BAD;
        }
        if (now.day + n >= 1000) {
            return FULL;
        }
        int before = Integer.bitCount(now.bits(HOME));
        now = now.behind(n);
        return Integer.bitCount(now.bits(HOME)) - before;
    }

    int runs(int n, int what) {
        if (out(n, 0, 60) || out(what, 0, 4)) {
            return BAD;
        }
        World w = now.copy();
        int boiled = 0;
        int idle = 0;
        for (int d = 0; d < n; d++) {
            int batch = w.step(w.sun()).size();
            boiled += batch;
            if (batch == 0) {
                idle++;
            }
        }
        return new int[] {Integer.bitCount(w.bits(HOME)), w.grey(), w.bits(LINE), boiled, idle}[what];
    }

    int ahead(int i, int n, int what) {
        if (noOne(i) || out(n, 0, 60) || out(what, 0, 2)) {
            return BAD;
        }
        One o = now.behind(n).ones.get(i);
        return new int[] {o.grey, o.wet, PLACES.indexOf(o.place)}[what];
    }

    private static int orNone(int n) {
        return n == Integer.MAX_VALUE ? NONE : n;
    }

    int home(int i) {
        return noOne(i) ? BAD : orNone(now.first(w -> w.ones.get(i).place.equals(HOME)));
    }

    int done() {
        return orNone(now.doneBehind());
    }

    // ---- what is best

    private int leastRule(int rule, int n) {
        if (out(n, 0, 60)) {
            return BAD;
        }
        for (int v = LEAST[rule]; v <= MOST[rule]; v++) {
            World w = now.copy();
            w.rules[rule] = v;
            if (w.behind(n).done()) {
                return v;
            }
        }
        return NONE;
    }

    int blue(int n) {
        return leastRule(0, n);
    }

    int pegs(int n) {
        return leastRule(2, n);
    }

    /** Of {name, days}: the soonest below the limit, of several the least name. */
    private static int soonest(List<int[]> tries, int limit, int what) {
        int[] best = null;
        for (int[] t : tries) {
            boolean better = best == null || t[1] < best[1] || t[1] == best[1] && t[0] < best[0];
            if (t[1] < limit && better) {
                best = t;
            }
        }
        return best == null ? NONE : best[what];
    }

    int batch(int what) {
        if (out(what, 0, 1)) {
            return BAD;
        }
        List<int[]> tries = new ArrayList<>();
        for (int v = 6; v >= 1; v--) {
            World w = now.copy();
            w.rules[1] = v;
            tries.add(new int[] {v, w.doneBehind()});
        }
        return soonest(tries, Integer.MAX_VALUE, what);
    }

    int swap(int what) {
        if (out(what, 0, 1)) {
            return BAD;
        }
        List<int[]> tries = new ArrayList<>();
        for (int b = now.ones.size() - 1; b >= 0; b--) {
            for (int a = b - 1; a >= 0; a--) {
                World w = now.copy();
                java.util.Collections.swap(w.ones, a, b);
                tries.add(new int[] {10 * a + b, w.doneBehind()});
            }
        }
        return soonest(tries, now.doneBehind(), what);
    }

    int fair(int what) {
        if (out(what, 0, 1)) {
            return BAD;
        }
        List<int[]> tries = new ArrayList<>();
        for (int d = 6; d >= 0; d--) {
            World w = now.copy();
            w.suns[d] = 9;
            tries.add(new int[] {d, w.doneBehind()});
        }
        return soonest(tries, now.doneBehind(), what);
    }

    int stain(int i, int n) {
        if (noOne(i) || out(n, 0, 60)) {
            return BAD;
        }
        int greatest = NONE;
        for (int g = 0; g <= 60; g++) {
            World w = now.copy();
            w.ones.get(i).grey = g;
            if (w.behind(n).ones.get(i).place.equals(HOME)) {
                greatest = g;
            }
        }
        return greatest;
    }

    int kind(int i, int what) {
        if (noOne(i) || out(what, 0, 1)) {
            return BAD;
        }
        List<int[]> tries = new ArrayList<>();
        for (int k = 3; k >= 0; k--) {
            World w = now.copy();
            w.ones.get(i).kind = KINDS.get(k);
            tries.add(new int[] {k, w.doneBehind()});
        }
        return soonest(tries, Integer.MAX_VALUE, what);
    }

    // ---- rains

    private interface Worth {
        int of(World w);
    }

    private long fraction(int v, int n, int what, Worth worth) {
        if (out(v, 0, 10) || out(n, 0, 8) || out(what, 0, 1)) {
            return BAD;
        }
        BigInteger over = BigInteger.ZERO;
        for (int rains = 0; rains < 1 << n; rains++) {
            World w = now.copy();
            BigInteger weight = BigInteger.ONE;
            for (int d = 0; d < n; d++) {
                boolean rain = (rains >> d & 1) == 1;
                weight = weight.multiply(BigInteger.valueOf(rain ? v : 10 - v));
                w.step(rain ? 0 : w.sun());
            }
            over = over.add(weight.multiply(BigInteger.valueOf(worth.of(w))));
        }
        BigInteger under = BigInteger.TEN.pow(n);
        BigInteger common = over.gcd(under);
        return (what == 0 ? over : under).divide(common).longValueExact();
    }

    long luck(int v, int i, int n, int what) {
        return noOne(i) ? BAD : fraction(v, n, what, w -> w.ones.get(i).place.equals(HOME) ? 1 : 0);
    }

    long mean(int v, int n, int what) {
        return fraction(v, n, what, World::grey);
    }

    // ---- from where it was

    int see(int n, int i, int w) {
        if (out(n, 0, 20) || noOne(i) || out(w, 0, 2)) {
            return BAD;
        }
        if (seen.size() == 6) {
            return FULL;
        }
        seen.add(new int[] {n, i, w});
        return seen.size();
    }

    int forget(int n) {
        if (out(n, 0, seen.size())) {
            return BAD;
        }
        int were = seen.size();
        seen = new ArrayList<>(seen.subList(0, n));
        return were;
    }

    private boolean asSeen(World w) {
        return seen.stream().allMatch(s -> w.behind(s[0]).ones.get(s[1]).place.equals(PLACES.get(s[2])));
    }

    int kinds(int i) {
        if (noOne(i)) {
            return BAD;
        }
        int bits = 0;
        for (int k = 0; k < 4; k++) {
            World w = now.copy();
            w.ones.get(i).kind = KINDS.get(k);
            bits += asSeen(w) ? 1 << k : 0;
        }
        return bits;
    }

    private World withGrey(int i, int g) {
        World w = now.copy();
        w.ones.get(i).grey = g;
        return w;
    }

    int greys(int i) {
        if (noOne(i)) {
            return BAD;
        }
        return IntStream.rangeClosed(0, 30).filter(g -> asSeen(withGrey(i, g))).map(g -> 1 << g).sum();
    }

    int ask(int i, int what) {
        if (noOne(i) || out(what, 0, 1)) {
            return BAD;
        }
        int greys = greys(i);
        List<int[]> tries = new ArrayList<>();
        List<World> worlds = new ArrayList<>();
        for (int g = 0; g <= 30; g++) {
            if ((greys >> g & 1) == 1) {
                worlds.add(withGrey(i, g));
            }
        }
        for (int n = 0; n <= 20; n++) {
            for (int who = 0; who < now.ones.size(); who++) {
                int worst = 0;
                for (String place : PLACES) {
                    int left = 0;
                    for (World w : worlds) {
                        left += w.ones.get(who).place.equals(place) ? 1 : 0;
                    }
                    worst = Math.max(worst, left);
                }
                tries.add(new int[] {10 * n + who, worst});
            }
            for (World w : worlds) {
                w.step(w.sun());
            }
        }
        return soonest(tries, Integer.bitCount(greys), what);
    }

    // ---- by a seed

    int drift(int seed, int n, int what) {
        if (out(n, 1, 60) || out(what, 0, 1)) {
            return BAD;
        }
        if (now.ones.isEmpty()) {
            return STATE;
        }
        World w = now.copy();
        BigInteger turning = BigInteger.valueOf(seed);
        for (int d = 0; d < n; d++) {
            turning = turning.multiply(BigInteger.valueOf(1103515245L)).add(BigInteger.valueOf(12345));
            int got = turning.shiftRight(16).mod(BigInteger.valueOf(32768)).intValueExact();
            One o = w.ones.get(got / 16 % w.ones.size());
            o.grey = Math.min(60, o.grey + got / 128 % 3);
            w.step(got % 10);
        }
        return what == 0 ? Integer.bitCount(w.bits(HOME)) : w.grey();
    }

    // ---- images, sheets

    int keep(int k) {
        if (out(k, 0, 1)) {
            return BAD;
        }
        int was = imageWorlds[k] == null ? 0 : 1;
        imageWorlds[k] = now.copy();
        imageSeen.set(k, List.copyOf(seen));
        return was;
    }

    int back(int k) {
        if (out(k, 0, 1)) {
            return BAD;
        }
        if (imageWorlds[k] == null) {
            return STATE;
        }
        now = imageWorlds[k].copy();
        seen = new ArrayList<>(imageSeen.get(k));
        return now.day;
    }

    int sheet(int k, int lane, int n) {
        if (out(k, 0, 3) || out(lane, 0, 2) || n > 40) {
            return BAD;
        }
        try {
            sheets[k] = lane == 0 ? new byte[n] : lane == 1 ? new short[n] : new int[n];
            return 1;
        } catch (NegativeArraySizeException e) {
            return -14;
        }
    }

    int lay(int k, int i, int v) {
        if (out(k, 0, 3)) {
            return BAD;
        }
        try {
            if (sheets[k] instanceof byte[] b) {
                b[i] = (byte) v;
            } else if (sheets[k] instanceof short[] s) {
                s[i] = (short) v;
            } else {
                ((int[]) sheets[k])[i] = v;
            }
            return 1;
        } catch (NullPointerException e) {
            return -11;
        } catch (ArrayIndexOutOfBoundsException e) {
            return -12;
        }
    }

    private static int cell(Object row, int lane, int i) {
        return lane == 0 ? ((byte[]) row)[i] : lane == 1 ? ((short[]) row)[i] : ((int[]) row)[i];
    }

    int read(int k, int lane, int f, int n) {
        if (out(k, 0, 3) || out(lane, 0, 2) || out(n, 0, 20)) {
            return BAD;
        }
        World before = now.copy();
        int came = 0;
        int found = 0;
        try {
            for (int i = 0; i < n; i++) {
                int kind = cell(sheets[k], lane, f + 2 * i);
                int grey = cell(sheets[k], lane, f + 2 * i + 1);
                if (bring(kind, grey) < 0) {
                    now = before;
                    return -20 - i;
                }
                came++;
            }
        } catch (NullPointerException e) {
            found = 1;
        } catch (ArrayIndexOutOfBoundsException e) {
            found = 2;
        } catch (ClassCastException e) {
            found = 3;
        }
        torn = found;
        return came;
    }

    int torn() {
        return torn;
    }

    int count(int what) {
        return switch (what) {
            case 0 -> seen.size();
            case 1 -> (imageWorlds[0] == null ? 0 : 1) + (imageWorlds[1] == null ? 0 : 1);
            case 2 -> tape.length();
            case 3 -> sheets[0] == null ? NONE : java.lang.reflect.Array.getLength(sheets[0]);
            case 4 -> now.ones.stream().mapToInt(o -> o.wet).sum();
            case 5 -> IntStream.of(now.suns).sum();
            default -> BAD;
        };
    }
}
