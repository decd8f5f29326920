/** The edges of promise 34, a test for each sentence that names one. */
public final class EdgeDriftTest {
    private static final Check CHECK = new Check("EdgeDriftTest");
    private static final int[] SEEDS = {0, 1, -1, 7, 12345, Integer.MAX_VALUE, Integer.MIN_VALUE};

    public static void main(String[] args) {
        CHECK.runPromises(EdgeDriftTest.class, 34, 34);
        CHECK.end();
    }

    private static void due(String call, long got, long want) {
        CHECK.due(call, got, want);
    }

    /** So many clean ones, all HOME: nobody is boiled or bleached. */
    private static MangleLine home(int ones) {
        MangleLine x = new MangleLine();
        x.set(1, 6);
        x.set(2, 6);
        x.set(4, 4);
        for (int i = 0; i < ones; i++) {
            x.bring(0, 0);
        }
        x.days(1);
        return x;
    }

    private static void promise34OutOfBoundsIsBadAlsoWhereNobodyIs() {
        for (int n : Check.outside(1, 60)) {
            CHECK.refuses("drift(7, " + n + ", 0)", -1, x -> x.drift(7, n, 0));
            CHECK.refuses("drift(7, " + n + ", 1)", -1, x -> x.drift(7, n, 1));
        }
        for (int what : Check.outside(0, 1)) {
            CHECK.refuses("drift(7, 1, " + what + ")", -1, x -> x.drift(7, 1, what));
        }
    }

    private static void promise34NobodyIsState() {
        for (int seed : SEEDS) {
            CHECK.leaves("drift(" + seed + ", 1, 0)", Scene.NEW, -2, x -> x.drift(seed, 1, 0));
            CHECK.leaves("drift(" + seed + ", 60, 1)", Scene.NEW, -2, x -> x.drift(seed, 60, 1));
        }
        MangleLine x = new MangleLine();
        x.bring(0, 0);
        CHECK.holds("one is enough", x.drift(7, 1, 0) >= 0);
    }

    /** The seed turns over; who is HOME only gets greyer, by what is got by 128 modulo 3, 60 at most. */
    private static void promise34OneDayAndSixtyDaysOfEachSeed() {
        for (int seed : SEEDS) {
            MangleLine x = home(1);
            int[] got = Seeds.gotBy(seed, 60);
            int grey = 0;
            for (int n = 1; n <= 60; n++) {
                grey = Math.min(60, grey + got[n - 1] / 128 % 3);
                due("drift(" + seed + ", " + n + ", 1)", x.drift(seed, n, 1), grey);
            }
            due("HOME behind 60", x.drift(seed, 60, 0), 1);
        }
    }

    private static void promise34TheOneIsGotBy16ModuloOnes() {
        for (int ones = 1; ones <= 6; ones++) {
            // 2 more: got by 128 is 2, got by 16 is 16 to 23.
            for (int by16 = 16; by16 < 24; by16++) {
                MangleLine x = home(ones);
                int who = by16 % ones;
                for (int i = 0; i < ones; i++) {
                    x.alter(i, 1, i == who ? 0 : 60);
                }
                int others = 60 * (ones - 1);
                due("ONE " + who + " of " + ones, x.drift(Seeds.seedFor(16 * by16, 0, 0), 1, 1), others + 2);
                due("up to 15 more", x.drift(Seeds.seedFor(16 * by16 + 15, 1, 65535), 1, 1), others + 2);
            }
        }
    }

    private static void promise34NoneOneOrTwoMore() {
        MangleLine x = home(1);
        int[] got = {0, 127, 128, 255, 256, 383, 384, 32767};
        int[] more = {0, 0, 1, 1, 2, 2, 0, 0};
        for (int k = 0; k < got.length; k++) {
            for (int bit31 = 0; bit31 < 2; bit31++) {
                due("got " + got[k], x.drift(Seeds.seedFor(got[k], bit31, 0), 1, 1), more[k]);
                due("got " + got[k], x.drift(Seeds.seedFor(got[k], bit31, 65535), 1, 1), more[k]);
            }
        }
    }

    private static void promise34SixtyAtMost() {
        MangleLine x = home(1);
        int[] greys = {57, 58, 59, 60};
        int[] then = {59, 60, 60, 60};
        for (int k = 0; k < greys.length; k++) {
            x.alter(0, 1, greys[k]);
            due("2 more than " + greys[k], x.drift(Seeds.seedFor(256, 0, 0), 1, 1), then[k]);
        }
    }

    private static void promise34TheSunIsGotModulo10() {
        for (int sun = 0; sun <= 9; sun++) {
            // Below 128 none gets greyer.
            MangleLine x = Check.told("plain 0;sun 9 9 9 9 9 9 9;");
            if (sun > 0) {
                x.set(4, sun);
                due("dries " + sun, x.drift(Seeds.seedFor(sun, 0, 0), 1, 0), 1);
                due("dries " + sun, x.drift(Seeds.seedFor(110 + sun, 1, 9), 1, 0), 1);
            }
            x.set(4, sun + 1);
            due("dries no more than " + sun, x.drift(Seeds.seedFor(sun, 0, 0), 1, 0), 0);
            x.set(0, 0);
            x.alter(0, 1, 9);
            due("bleached from 5 on", x.drift(Seeds.seedFor(sun, 0, 0), 1, 1), sun >= 5 ? 8 : 9);
        }
    }

    private static void promise34GreyerAheadOfTheDay() {
        // 259: SUN 9, ONE 0, 2 more: 1 and 2 are scrubbed by 3.
        MangleLine x = Check.told("plain 1;soak 9;");
        due("HOME", x.drift(Seeds.seedFor(259, 0, 0), 1, 0), 1);
        due("GREY", x.drift(Seeds.seedFor(259, 0, 0), 1, 1), 0);
        x.alter(0, 1, 3);
        due("5 less 3 less 1", x.drift(Seeds.seedFor(259, 0, 0), 1, 1), 1);
        due("not HOME", x.drift(Seeds.seedFor(259, 0, 0), 1, 0), 0);
    }

    private static void promise34OnTheLastDay() {
        MangleLine x = Scene.FULL.make();
        CHECK.holds("goes beyond", x.drift(7, 60, 1) >= 0);
        due("DAY", x.rule(1), 999);
    }

    private static void promise34ByItself() {
        CHECK.onlyAsks("drift(7, 60, 0)", x -> x.drift(7, 60, 0));
        CHECK.onlyAsks("drift(-7, 1, 1)", x -> x.drift(-7, 1, 1));
    }
}
