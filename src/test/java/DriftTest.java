/** Promise 34: drift. */
public final class DriftTest {
    private static final Check CHECK = new Check("DriftTest");

    public static void main(String[] args) {
        theFirstDay();
        greyAheadOfTheDay();
        sixtyAtMost();
        homeIsSoiledToo();
        chained();
        wrong();
        CHECK.end();
    }

    private static void due(String call, long got, long want) {
        CHECK.due(call, got, want);
    }

    private static void theFirstDay() {
        for (int bit31 = 0; bit31 < 2; bit31++) {
            int below = 65535 * bit31;
            // SUN 2: 20 and 30 GREY by BLUE 3 are 17 and 27; 272 by 16 is 17, odd; 272 by 128 is 2.
            MangleLine x = Check.told("plain 20;plain 30;");
            due("2 more", x.drift(Seeds.seedFor(272, bit31, below), 1, 1), 46);
            due("none HOME", x.drift(Seeds.seedFor(272, bit31, below), 1, 0), 0);
            // 144 by 128 is 1; SUN 4.
            due("1 more", x.drift(Seeds.seedFor(144, bit31, below), 1, 1), 45);
            // 255 by 128 is 1, 128 too; SUN 5, 8: both bleached.
            due("1 more up to 255", x.drift(Seeds.seedFor(255, bit31, below), 1, 1), 43);
            due("1 more from 128", x.drift(Seeds.seedFor(128, bit31, below), 1, 1), 43);
            // 384 by 128 is 3: 0 more; SUN 4.
            due("0 more", x.drift(Seeds.seedFor(384, bit31, below), 1, 1), 44);
            // 5: SUN 5 bleaches both, nothing more.
            due("bleached", x.drift(Seeds.seedFor(5, bit31, below), 1, 1), 42);
            // 32767: SUN 7, 255 modulo 3 is 0.
            due("the greatest", x.drift(Seeds.seedFor(32767, bit31, below), 1, 1), 42);
            MangleLine y = Check.told("plain 0;wicked 1;soak 7;");
            due("HOME by a SUN of 7", y.drift(Seeds.seedFor(7, bit31, below), 1, 0), 2);
            due("not by a SUN of 6", y.drift(Seeds.seedFor(6, bit31, below), 1, 0), 0);
        }
    }

    private static void greyAheadOfTheDay() {
        // 289: SUN 9; 18 modulo 2 is ONE 0, 2 more ahead of the boiling: 3 by BLUE 3 is 0, not 2.
        MangleLine x = Check.told("plain 1;plain 0;soak 9;");
        due("clean all the same", x.drift(Seeds.seedFor(289, 0, 0), 1, 1), 0);
        due("both HOME", x.drift(Seeds.seedFor(289, 0, 0), 1, 0), 2);
        // Of three ONES 18 modulo 3 is 0, 17 modulo 3 is 2.
        MangleLine y = Check.told("plain 9;plain 9;plain 1;blue 1;batch 6;soak 9;");
        due("ONE 2 is not clean", y.drift(Seeds.seedFor(279, 0, 0), 1, 0), 0);
        due("but is by ONE 0", y.drift(Seeds.seedFor(289, 0, 0), 1, 0), 1);
    }

    private static void sixtyAtMost() {
        MangleLine x = Check.told("plain 59;blue 0;");
        due("60 at most", x.drift(Seeds.seedFor(272, 0, 0), 1, 1), 60);
        x.alter(0, 1, 58);
        due("60", x.drift(Seeds.seedFor(272, 0, 0), 1, 1), 60);
    }

    private static void homeIsSoiledToo() {
        MangleLine x = Check.told("plain 0;");
        x.days(2);
        due("HOME", x.rule(4), 1);
        due("greyer at HOME", x.drift(Seeds.seedFor(272, 0, 0), 1, 1), 2);
        due("HOME still", x.drift(Seeds.seedFor(272, 0, 0), 1, 0), 1);
        due("GREY as it was", x.one(0, 1), 0);
        due("DAY as it was", x.rule(1), 2);
        due("suns as they were", x.count(5), 28);
    }

    /** The SUNS that are got one behind another, told to the week, dry alike where none is soiled. */
    private static void chained() {
        int seed = 7;
        int turning = seed;
        for (int n = 1; n <= 60; n++) {
            MangleLine x = Check.told("plain 0;soak 20;pass 30;");
            int wet = 20;
            boolean home = false;
            turning = seed;
            for (int d = 0; d < n; d++) {
                turning = (int) (turning * 1103515245L + 12345L);
                wet -= (int) ((turning & 0xFFFFFFFFL) / 65536 % 32768 % 10);
                home |= wet <= 0;
            }
            due("drift(7, " + n + ", 0)", x.drift(seed, n, 0), home ? 1 : 0);
        }
    }

    private static void wrong() {
        MangleLine nobody = new MangleLine();
        due("nobody", nobody.drift(1, 1, 0), -2);
        due("nobody, n 0", nobody.drift(1, 0, 0), -1);
        due("nobody, what 2", nobody.drift(1, 1, 2), -1);
        MangleLine x = Check.told("plain 0;");
        due("n 0", x.drift(1, 0, 0), -1);
        due("n 61", x.drift(1, 61, 0), -1);
        due("what 2", x.drift(1, 1, 2), -1);
        due("what -1", x.drift(1, 1, -1), -1);
        CHECK.holds("the least seed", x.drift(Integer.MIN_VALUE, 60, 0) >= 0);
        CHECK.holds("the greatest seed", x.drift(Integer.MAX_VALUE, 60, 1) >= 0);
    }
}
