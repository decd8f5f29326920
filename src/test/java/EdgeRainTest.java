/** The edges of promises 27 and 28, a test for each sentence that names one. */
public final class EdgeRainTest {
    private static final Check CHECK = new Check("EdgeRainTest");

    public static void main(String[] args) {
        CHECK.runPromises(EdgeRainTest.class, 27, 28);
        CHECK.end();
    }

    private static void luck(MangleLine x, int v, int i, int n, long over, long under) {
        String call = "luck(" + v + ", " + i + ", " + n;
        CHECK.due(call + ", 0)", x.luck(v, i, n, 0), over);
        CHECK.due(call + ", 1)", x.luck(v, i, n, 1), under);
    }

    private static void mean(MangleLine x, int v, int n, long over, long under) {
        String call = "mean(" + v + ", " + n;
        CHECK.due(call + ", 0)", x.mean(v, n, 0), over);
        CHECK.due(call + ", 1)", x.mean(v, n, 1), under);
    }

    // ---- promise 27: luck

    private static void promise27NoSuchOneIsBad() {
        for (int i : Check.outside(0, 5)) {
            CHECK.refuses("luck(5, " + i + ", 1, 0)", -1, x -> x.luck(5, i, 1, 0));
        }
        CHECK.leaves("luck(5, 0, 1, 0)", Scene.NEW, -1, x -> x.luck(5, 0, 1, 0));
        CHECK.leaves("luck(5, 4, 1, 0)", Scene.BUSY, -1, x -> x.luck(5, 4, 1, 0));
    }

    private static void promise27OutOfBoundsIsBad() {
        for (int v : Check.outside(0, 10)) {
            CHECK.refuses("luck(" + v + ", 0, 1, 0)", -1, x -> x.luck(v, 0, 1, 0));
        }
        for (int n : Check.outside(0, 8)) {
            CHECK.refuses("luck(5, 0, " + n + ", 0)", -1, x -> x.luck(5, 0, n, 0));
        }
        for (int what : Check.outside(0, 1)) {
            CHECK.refuses("luck(5, 0, 1, " + what + ")", -1, x -> x.luck(5, 0, 1, what));
            CHECK.refuses("luck(5, 0, 0, " + what + ")", -1, x -> x.luck(5, 0, 0, what));
        }
    }

    private static void promise27BehindNoDays() {
        for (int v = 0; v <= 10; v += 5) {
            luck(Scene.BUSY.make(), v, 0, 0, 1, 1);
            luck(Scene.BUSY.make(), v, 1, 0, 0, 1);
            luck(Scene.BUSY.make(), v, 3, 0, 0, 1);
        }
    }

    private static void promise27ItNeverRainsOrAlways() {
        MangleLine x = Check.told("plain 0;");
        luck(x, 0, 0, 1, 0, 1);
        luck(x, 0, 0, 2, 1, 1);
        luck(x, 0, 0, 8, 1, 1);
        luck(x, 10, 0, 2, 0, 1);
        luck(x, 10, 0, 8, 0, 1);
        x.days(2);
        luck(x, 10, 0, 8, 1, 1);
    }

    private static void promise27ByOneAndByNineOutOfTen() {
        MangleLine x = Check.told("plain 0;soak 4;");
        luck(x, 1, 0, 1, 9, 10);
        luck(x, 9, 0, 1, 1, 10);
        luck(x, 5, 0, 1, 1, 2);
        luck(x, 2, 0, 1, 4, 5);
    }

    private static void promise27BehindEightDays() {
        // One sunny DAY of eight is enough, or two are needed, or all.
        MangleLine x = Check.told("plain 0;soak 4;");
        luck(x, 9, 0, 8, 56953279, 100000000);
        luck(x, 5, 0, 8, 255, 256);
        x.set(4, 8);
        luck(x, 9, 0, 8, 18689527, 100000000);
        x.set(4, 8);
        for (int d = 0; d < 7; d++) {
            x.shine(d, 1);
        }
        luck(x, 1, 0, 8, 43046721, 100000000);
        luck(x, 9, 0, 8, 1, 100000000);
        luck(x, 5, 0, 8, 1, 256);
        luck(x, 5, 0, 7, 0, 1);
    }

    private static void promise27InLowestTerms() {
        MangleLine x = Check.told("plain 0;");
        luck(x, 5, 0, 2, 1, 4);
        luck(x, 5, 0, 3, 1, 2);
        luck(x, 2, 0, 2, 16, 25);
        luck(x, 8, 0, 2, 1, 25);
        luck(x, 3, 0, 3, 98, 125);
    }

    private static void promise27TheWeekTurnsOver() {
        MangleLine x = Check.daysTo(Check.told("soak 9;sun 9 0 0 0 0 0 0;"), 6);
        x.bring(0, 0);
        luck(x, 3, 0, 1, 0, 1);
        luck(x, 3, 0, 2, 7, 10);
        Check.daysTo(x, 7);
        x.set(4, 18);
        x.fetch(0);
        luck(x, 3, 0, 7, 0, 1);
        luck(x, 3, 0, 8, 49, 100);
    }

    private static void promise27BeyondTheLastDay() {
        MangleLine x = Check.daysTo(Check.told("soak 9;sun 0 0 0 0 0 0 9;"), 999);
        x.bring(0, 0);
        luck(x, 3, 0, 1, 0, 1);
        luck(x, 3, 0, 2, 7, 10);
    }

    private static void promise27ChangesNothing() {
        CHECK.onlyAsks("luck(5, 3, 8, 0)", x -> x.luck(5, 3, 8, 0));
        CHECK.onlyAsks("luck(10, 0, 8, 1)", x -> x.luck(10, 0, 8, 1));
    }

    // ---- promise 28: mean

    private static void promise28OutOfBoundsIsBad() {
        for (int v : Check.outside(0, 10)) {
            CHECK.refuses("mean(" + v + ", 1, 0)", -1, x -> x.mean(v, 1, 0));
        }
        for (int n : Check.outside(0, 8)) {
            CHECK.refuses("mean(5, " + n + ", 0)", -1, x -> x.mean(5, n, 0));
        }
        for (int what : Check.outside(0, 1)) {
            CHECK.refuses("mean(5, 1, " + what + ")", -1, x -> x.mean(5, 1, what));
            CHECK.refuses("mean(5, 0, " + what + ")", -1, x -> x.mean(5, 0, what));
        }
    }

    private static void promise28NobodyOrAllCleanIs0By1() {
        for (int n = 0; n <= 8; n++) {
            mean(new MangleLine(), 3, n, 0, 1);
            mean(Check.told("plain 0;plain 0;"), 3, n, 0, 1);
        }
    }

    private static void promise28BehindNoDays() {
        mean(Scene.BUSY.make(), 3, 0, 46, 1);
        mean(Scene.FULL.make(), 10, 0, 146, 1);
    }

    private static void promise28ItNeverRainsOrAlways() {
        MangleLine x = Check.told("plain 9;plain 9;blue 0;soak 20;sun 5;");
        mean(x, 0, 1, 16, 1);
        mean(x, 10, 1, 18, 1);
        mean(x, 5, 1, 17, 1);
        mean(x, 1, 1, 81, 5);
        mean(x, 9, 1, 89, 5);
    }

    /** A SUN of 5 whitens each of six by 1 a DAY, if it does not rain. */
    private static void promise28BehindEightDays() {
        MangleLine x = Check.told("plain 60;plain 60;plain 60;plain 60;plain 60;plain 60;"
            + "blue 0;batch 6;pegs 6;soak 20;sun 5 5 5 5 5 5 5;");
        mean(x, 0, 8, 312, 1);
        mean(x, 10, 8, 360, 1);
        mean(x, 9, 8, 1776, 5);
        mean(x, 5, 8, 336, 1);
        // Whitened to 0 at least: of GREY 1 there is 1 left only if it rains on all eight.
        MangleLine y = Check.told("plain 1;blue 0;soak 20;sun 5 5 5 5 5 5 5;");
        mean(y, 3, 8, 6561, 100000000);
        mean(y, 9, 8, 43046721, 100000000);
    }

    private static void promise28TheWeekTurnsOver() {
        MangleLine x = Check.daysTo(Check.told("blue 0;soak 20;sun 5 0 0 0 0 0 0;"), 6);
        x.bring(0, 9);
        mean(x, 3, 1, 9, 1);
        mean(x, 3, 2, 83, 10);
        mean(x, 3, 8, 83, 10);
    }

    private static void promise28ChangesNothing() {
        CHECK.onlyAsks("mean(5, 8, 0)", x -> x.mean(5, 8, 0));
        CHECK.onlyAsks("mean(10, 8, 1)", x -> x.mean(10, 8, 1));
    }
}
