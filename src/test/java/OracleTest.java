import java.util.Random;

/** Runs of calls by fixed seeds, each answer held against the Oracle's. All promises. */
public final class OracleTest {
    private static final int RUNS = 1500;
    private static final int CALLS = 512;
    private static final String[] WORDS = {
        "plain", "wicked", "creased", "napkin", "blue", "batch", "pegs", "pass", "soak", "sun",
    };
    private static final int[] MOST = {60, 60, 60, 60, 9, 6, 6, 30, 20, 9};
    private static final String NOISE = "abz09;; @A/:`{";

    private final Random random;
    private final int run;
    private final MangleLine it = new MangleLine();
    private final Oracle oracle = new Oracle();
    private final StringBuilder trace = new StringBuilder();
    private int calls;
    private int wrong;

    private OracleTest(int run) {
        this.run = run;
        this.random = new Random(run);
    }

    public static void main(String[] args) {
        int wrong = 0;
        int runs = args.length > 0 ? Integer.parseInt(args[0]) : RUNS;
        for (int run = 0; run < runs && wrong < 5; run++) {
            wrong += new OracleTest(run).play();
        }
        System.out.println("OracleTest: " + wrong + " wrong in " + runs + " runs");
        if (wrong != 0) {
            System.exit(1);
        }
    }

    private int play() {
        if (random.nextInt(8) != 0) {
            tell();
        }
        while (calls < CALLS && wrong == 0) {
            call();
        }
        return wrong;
    }

    private int below(int n) {
        return random.nextInt(n);
    }

    /** A number from 0 to most, now and then just outside or far off. */
    private int about(int most) {
        int dice = below(40);
        if (dice == 0) {
            return -1;
        }
        if (dice == 1) {
            return most + 1;
        }
        if (dice == 2) {
            return random.nextInt();
        }
        return below(most + 1);
    }

    /** Most often a ONE that there is. */
    private int who() {
        int size = oracle.rule(0);
        return size > 0 && below(12) != 0 ? below(size) : about(6);
    }

    private void same(String call, long got, long want) {
        calls++;
        trace.append(call).append(" = ").append(want).append('\n');
        if (got != want) {
            wrong++;
            System.out.println("run " + run + ", call " + calls + ": " + call + " answered " + got + ", due is " + want);
            System.out.println(trace);
        }
    }

    private String number(int word) {
        int dice = below(30);
        if (dice == 0) {
            return "" + below(120);
        }
        String figures = "" + (MOST[word] < 10 ? below(MOST[word] + 1) : below(2) == 0 ? below(10) : below(MOST[word] + 1));
        return below(10) == 0 && figures.length() == 1 ? "0" + figures : figures;
    }

    private String line() {
        int word = below(3) == 0 ? 4 + below(6) : below(4);
        StringBuilder line = new StringBuilder(WORDS[word]);
        int numbers = word == 9 ? below(9) : 1;
        for (int k = 0; k < numbers; k++) {
            line.append(" ".repeat(k == 0 && below(6) == 0 ? 0 : 1 + below(2))).append(number(word));
        }
        return line.append(below(8) == 0 ? " ;" : ";").append(below(6) == 0 ? " " : "").toString();
    }

    private String someText() {
        StringBuilder text = new StringBuilder();
        int lines = below(10);
        for (int k = 0; k < lines && text.length() < 150; k++) {
            text.append(line());
        }
        while (below(5) == 0 && text.length() > 0) {
            int at = below(text.length());
            char noise = NOISE.charAt(below(NOISE.length()));
            switch (below(3)) {
                case 0 -> text.setCharAt(at, noise);
                case 1 -> text.insert(at, noise);
                default -> text.deleteCharAt(at);
            }
        }
        return text.toString();
    }

    private void tell() {
        String text = someText();
        for (int k = 0; k < text.length() && calls < CALLS - 2; k++) {
            char c = text.charAt(k);
            same("feed(" + (int) c + ")", it.feed(c), oracle.feed(c));
        }
        same("text() of '" + text + "'", it.text(), oracle.text());
        same("fault()", it.fault(), oracle.fault());
    }

    private void call() {
        switch (below(9)) {
            case 0 -> textCall();
            case 1, 2 -> changeCall();
            case 3 -> daysCall();
            case 4 -> bestCall();
            case 5 -> rainCall();
            case 6 -> seenCall();
            case 7 -> imageCall();
            default -> sheetCall();
        }
    }

    private void textCall() {
        int a = about(7);
        int i = who();
        switch (below(12)) {
            case 0 -> same("rule(" + a + ")", it.rule(a), oracle.rule(a));
            case 1 -> same("told(" + a + ")", it.told(a), oracle.told(a));
            case 2 -> same("sun(" + a + ")", it.sun(a), oracle.sun(a));
            case 3 -> same("fault()", it.fault(), oracle.fault());
            case 4 -> {
                int n = about(oracle.count(2));
                same("end(" + n + ")", it.end(n), oracle.end(n));
            }
            case 5 -> {
                int c = about(127);
                same("feed(" + c + ")", it.feed(c), oracle.feed(c));
            }
            case 6 -> {
                if (below(8) == 0 && calls < CALLS - 2) {
                    tell();
                }
            }
            default -> same("one(" + i + ", " + a + ")", it.one(i, a), oracle.one(i, a));
        }
    }

    private void changeCall() {
        int i = who();
        int what = about(4);
        switch (below(7)) {
            case 0 -> {
                int v = about(new int[] {3, 60, 20, 5, 5}[Math.floorMod(what, 5)]);
                same("alter(" + i + ", " + what + ", " + v + ")", it.alter(i, what, v), oracle.alter(i, what, v));
            }
            case 1 -> {
                int v = about(new int[] {9, 6, 6, 30, 20}[Math.floorMod(what, 5)]);
                same("set(" + what + ", " + v + ")", it.set(what, v), oracle.set(what, v));
            }
            case 2 -> {
                int d = about(6);
                int v = about(9);
                same("shine(" + d + ", " + v + ")", it.shine(d, v), oracle.shine(d, v));
            }
            case 3, 4 -> {
                int kind = about(3);
                int grey = about(below(2) == 0 ? 20 : 60);
                same("bring(" + kind + ", " + grey + ")", it.bring(kind, grey), oracle.bring(kind, grey));
            }
            default -> same("fetch(" + i + ")", it.fetch(i), oracle.fetch(i));
        }
    }

    private void daysCall() {
        int n = about(60);
        int i = who();
        int what = about(4);
        switch (below(6)) {
            case 0 -> {
                int days = about(run % 3 == 0 ? 30 : 5);
                same("days(" + days + ")", it.days(days), oracle.days(days));
            }
            case 1 -> same("runs(" + n + ", " + what + ")", it.runs(n, what), oracle.runs(n, what));
            case 2, 3 -> same("ahead(" + i + ", " + n % 15 + ", " + what + ")", it.ahead(i, n % 15, what),
                oracle.ahead(i, n % 15, what));
            case 4 -> same("home(" + i + ")", it.home(i), oracle.home(i));
            default -> same("done()", it.done(), oracle.done());
        }
    }

    private void bestCall() {
        int n = about(below(2) == 0 ? 60 : 12);
        int i = who();
        int what = about(1);
        switch (below(7)) {
            case 0 -> same("blue(" + n + ")", it.blue(n), oracle.blue(n));
            case 1 -> same("pegs(" + n + ")", it.pegs(n), oracle.pegs(n));
            case 2 -> same("batch(" + what + ")", it.batch(what), oracle.batch(what));
            case 3 -> same("swap(" + what + ")", it.swap(what), oracle.swap(what));
            case 4 -> same("fair(" + what + ")", it.fair(what), oracle.fair(what));
            case 5 -> same("stain(" + i + ", " + n + ")", it.stain(i, n), oracle.stain(i, n));
            default -> same("kind(" + i + ", " + what + ")", it.kind(i, what), oracle.kind(i, what));
        }
    }

    private void rainCall() {
        int v = about(10);
        int i = who();
        int n = below(12) == 0 ? about(8) : about(4);
        int what = about(1);
        switch (below(3)) {
            case 0 -> same("luck(" + v + ", " + i + ", " + n + ", " + what + ")", it.luck(v, i, n, what),
                oracle.luck(v, i, n, what));
            case 1 -> same("mean(" + v + ", " + n + ", " + what + ")", it.mean(v, n, what), oracle.mean(v, n, what));
            default -> {
                int seed = random.nextInt();
                int days = about(60);
                same("drift(" + seed + ", " + days + ", " + what + ")", it.drift(seed, days, what),
                    oracle.drift(seed, days, what));
            }
        }
    }

    private void seenCall() {
        int n = about(20);
        int i = who();
        int w = about(2);
        switch (below(7)) {
            case 0, 1 -> {
                // Half of what is SEEN is so, that the rest of the calls has something left.
                int place = below(2) == 0 ? w : oracle.ahead(i, n, 2);
                same("see(" + n + ", " + i + ", " + place + ")", it.see(n, i, place), oracle.see(n, i, place));
            }
            case 2 -> {
                int left = about(oracle.count(0));
                same("forget(" + left + ")", it.forget(left), oracle.forget(left));
            }
            case 3 -> same("kinds(" + i + ")", it.kinds(i), oracle.kinds(i));
            case 4 -> same("greys(" + i + ")", it.greys(i), oracle.greys(i));
            default -> {
                int what = about(1);
                same("ask(" + i + ", " + what + ")", it.ask(i, what), oracle.ask(i, what));
            }
        }
    }

    private void imageCall() {
        int k = about(1);
        int what = about(5);
        switch (below(6)) {
            case 0 -> same("keep(" + k + ")", it.keep(k), oracle.keep(k));
            case 1 -> same("back(" + k + ")", it.back(k), oracle.back(k));
            default -> same("count(" + what + ")", it.count(what), oracle.count(what));
        }
    }

    private void sheetCall() {
        int k = about(3);
        int lane = about(2);
        switch (below(6)) {
            case 0 -> {
                int n = about(below(2) == 0 ? 8 : 40);
                same("sheet(" + k + ", " + lane + ", " + n + ")", it.sheet(k, lane, n), oracle.sheet(k, lane, n));
            }
            case 1, 2 -> {
                int i = about(8);
                int v = below(4) == 0 ? about(70000) : about(3);
                same("lay(" + k + ", " + i + ", " + v + ")", it.lay(k, i, v), oracle.lay(k, i, v));
            }
            case 3, 4 -> {
                int f = about(6);
                int n = below(6) == 0 ? about(20) : about(3);
                same("read(" + k + ", " + lane + ", " + f + ", " + n + ")", it.read(k, lane, f, n),
                    oracle.read(k, lane, f, n));
            }
            default -> same("torn()", it.torn(), oracle.torn());
        }
    }
}
