/** Promises 27 and 28: luck, mean. */
public final class RainTest {
    private static final Check CHECK = new Check("RainTest");

    public static void main(String[] args) {
        luck();
        mean();
        dearest();
        wrong();
        CHECK.end();
    }

    private static void due(String call, long got, long want) {
        CHECK.due(call, got, want);
    }

    private static void luck(MangleLine x, int v, int i, int n, long over, long under) {
        String call = "luck(" + v + ", " + i + ", " + n + ")";
        due(call + " over", x.luck(v, i, n, 0), over);
        due(call + " under", x.luck(v, i, n, 1), under);
    }

    private static void mean(MangleLine x, int v, int n, long over, long under) {
        String call = "mean(" + v + ", " + n + ")";
        due(call + " over", x.mean(v, n, 0), over);
        due(call + " under", x.mean(v, n, 1), under);
    }

    private static void luck() {
        // Two sunny DAYS dry it.
        MangleLine x = Check.told("plain 0;plain 0;batch 1;");
        luck(x, 3, 0, 0, 0, 1);
        luck(x, 3, 0, 1, 0, 1);
        luck(x, 3, 0, 2, 49, 100);
        // Two of three: 343 and 3 times 147 of 1000.
        luck(x, 3, 0, 3, 98, 125);
        luck(x, 1, 0, 2, 81, 100);
        luck(x, 9, 0, 2, 1, 100);
        luck(x, 5, 0, 2, 1, 4);
        luck(x, 5, 0, 3, 1, 2);
        luck(x, 0, 0, 2, 1, 1);
        luck(x, 10, 0, 8, 0, 1);
        luck(x, 0, 1, 2, 0, 1);
        luck(x, 0, 1, 3, 1, 1);
        x.days(2);
        luck(x, 10, 0, 8, 1, 1);
        luck(x, 4, 1, 1, 3, 5);
        due("DAY", x.rule(1), 2);
        due("the suns stay", x.count(5), 28);
    }

    private static void mean() {
        // BLUE 0: only the SUN of 5 on DAY 0 and of 9 on DAY 2 whitens.
        MangleLine x = Check.told("plain 9;plain 3;blue 0;batch 6;soak 20;sun 5 4 9;");
        mean(x, 3, 0, 12, 1);
        mean(x, 0, 1, 10, 1);
        mean(x, 10, 1, 12, 1);
        mean(x, 3, 1, 53, 5);
        mean(x, 3, 2, 53, 5);
        mean(x, 3, 3, 46, 5);
        mean(x, 5, 1, 11, 1);
        MangleLine clean = Check.told("plain 0;");
        mean(clean, 7, 8, 0, 1);
        mean(new MangleLine(), 7, 8, 0, 1);
        mean(new MangleLine(), 0, 0, 0, 1);
    }

    /** 8 DAYS of 9 by 10: nothing is lost of 10 to the 8th. */
    private static void dearest() {
        MangleLine x = Check.told("plain 60;plain 60;plain 60;plain 60;plain 60;plain 60;blue 0;batch 6;pegs 6;soak 20;"
            + "sun 5 5 5 5 5 5 5;");
        // Dry behind 4 suns of 5, then boiled and pegged anew: a sun of 5 whitens each by 1 on each DAY.
        // So 360 less 6 times 8 tenths.
        mean(x, 9, 8, 1776, 5);
        MangleLine y = Check.told("plain 0;soak 20;sun 4 4 4 4 4 4 4;");
        // All but a few DAYS of 8 have to be sunny: 5 or more of them.
        long over = 56L * 729 + 28L * 81 + 8L * 9 + 1;
        due("luck over", y.luck(9, 0, 8, 0), over / 5);
        due("luck under", y.luck(9, 0, 8, 1), 100000000L / 5);
        y.set(4, 4);
        due("but one DAY: over", y.luck(9, 0, 8, 0), 56953279L);
        due("but one DAY: under", y.luck(9, 0, 8, 1), 100000000L);
    }

    private static void wrong() {
        MangleLine x = Check.told("plain 0;");
        due("v -1", x.luck(-1, 0, 1, 0), -1);
        due("v 11", x.luck(11, 0, 1, 0), -1);
        due("no ONE", x.luck(1, 1, 1, 0), -1);
        due("no ONE", x.luck(1, -1, 1, 0), -1);
        due("n -1", x.luck(1, 0, -1, 0), -1);
        due("n 9", x.luck(1, 0, 9, 0), -1);
        due("what -1", x.luck(1, 0, 1, -1), -1);
        due("what 2", x.luck(1, 0, 1, 2), -1);
        due("v -1", x.mean(-1, 1, 0), -1);
        due("v 11", x.mean(11, 1, 0), -1);
        due("n -1", x.mean(1, -1, 0), -1);
        due("n 9", x.mean(1, 9, 0), -1);
        due("what -1", x.mean(1, 1, -1), -1);
        due("what 2", x.mean(1, 1, 2), -1);
        due("nobody", new MangleLine().luck(1, 0, 1, 0), -1);
    }
}
