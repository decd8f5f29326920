/** The edges of A DAY and of promises 15 to 19, a test for each sentence that names one. */
public final class EdgeDaysTest {
    private static final Check CHECK = new Check("EdgeDaysTest");
    /** Each round takes three DAYS and whitens by 1, so that GREY 20 is HOME behind 60 DAYS. */
    private static final String SIXTY = "plain 20;blue 1;soak 9;";

    public static void main(String[] args) {
        CHECK.runPromises(EdgeDaysTest.class, 15, 19);
        CHECK.end();
    }

    private static void due(String call, long got, long want) {
        CHECK.due(call, got, want);
    }

    // ---- promise 15: days

    private static void promise15OutOfBoundsIsBadAlsoOnTheLastDay() {
        for (int n : Check.outside(0, 30)) {
            CHECK.refuses("days(" + n + ")", -1, x -> x.days(n));
        }
    }

    private static void promise15NoDaysAndThirtyDays() {
        CHECK.leaves("days(0)", Scene.NEW, 0, x -> x.days(0));
        CHECK.leaves("days(0)", Scene.BUSY, 0, x -> x.days(0));
        CHECK.leaves("days(0)", Scene.FULL, 0, x -> x.days(0));
        MangleLine x = new MangleLine();
        due("days(30)", x.days(30), 0);
        due("DAY", x.rule(1), 30);
        due("days(1)", x.days(1), 0);
        due("DAY", x.rule(1), 31);
    }

    private static void promise15TheLastDayIs999() {
        MangleLine x = Check.daysTo(new MangleLine(), 969);
        x.keep(0);
        due("days(30) on DAY 969", x.days(30), 0);
        due("DAY", x.rule(1), 999);
        x.back(0);
        x.days(1);
        due("days(30) on DAY 970", x.days(30), -3);
        due("DAY", x.rule(1), 970);
        due("days(29) on DAY 970", x.days(29), 0);
        due("DAY", x.rule(1), 999);
        for (int n = 1; n <= 30; n++) {
            int days = n;
            CHECK.leaves("days(" + days + ")", Scene.FULL, -3, y -> y.days(days));
        }
    }

    private static void promise15BackFromTheLastDayTheyGoOn() {
        MangleLine x = Scene.FULL.make();
        due("back(1)", x.back(1), 990);
        CHECK.holds("days(9)", x.days(9) >= 0);
        due("DAY", x.rule(1), 999);
        due("days(1)", x.days(1), -3);
        x.end(0);
        x.text();
        due("behind a text", x.days(30), 0);
    }

    private static void promise15HowManyTimesOneCameHome() {
        MangleLine x = Check.told("plain 0;plain 0;plain 0;plain 0;plain 0;plain 0;batch 6;pegs 6;soak 4;");
        due("six on one DAY", x.days(1), 6);
        due("who is HOME does not come", x.days(30), 0);
        x.fetch(5);
        due("again who was fetched", x.days(1), 1);
        due("nobody is there", new MangleLine().days(30), 0);
        MangleLine y = Check.told("plain 9;blue 0;soak 4;");
        due("into the HEAP is not HOME", y.days(30), 0);
        MangleLine z = Check.told("plain 0;plain 0;plain 0;plain 0;batch 1;soak 4;");
        due("one on each of three DAYS", z.days(3), 3);
        due("and one more", z.days(30), 1);
    }

    private static void promise15AllAreBoiledIfThereAreFewerThanABatch() {
        for (int batch = 1; batch <= 6; batch++) {
            for (int ones = 0; ones <= 6; ones++) {
                MangleLine x = new MangleLine();
                for (int i = 0; i < ones; i++) {
                    x.bring(0, 10);
                }
                x.set(1, batch);
                x.set(2, 6);
                x.days(1);
                int boiled = Math.min(batch, ones);
                due("the first " + batch + " of " + ones, x.rule(3), (1 << boiled) - 1);
                due("GREY", x.rule(5), 10 * ones - 3 * boiled);
            }
        }
    }

    private static void promise15OnlyWhoIsInTheHeapIsBoiled() {
        MangleLine x = Scene.BUSY.make();
        x.shine(1, 0);
        x.set(1, 6);
        x.days(1);
        due("HOME", x.one(0, 1), 0);
        due("LINE", x.one(1, 1), 20);
        due("LINE", x.one(2, 1), 23);
        due("HEAP: a napkin SCRUBS 1 by BLUE 5", x.one(3, 1), 2);
    }

    private static void promise15ScrubbedTo0AtLeast() {
        int[] greys = {4, 3, 2, 0};
        int[] then = {1, 0, 0, 0};
        for (int k = 0; k < greys.length; k++) {
            MangleLine x = Check.told("plain " + greys[k] + ";sun 0;");
            x.days(1);
            due("GREY " + greys[k] + " by BLUE 3", x.one(0, 1), then[k]);
            MangleLine y = Check.told("plain " + greys[k] + ";pegs 0;");
            y.days(1);
            due("GREY " + greys[k] + " without PEGS", y.one(0, 1), then[k]);
        }
    }

    private static void promise15WetBecomesSoak() {
        for (int wet : new int[] {0, 7, 20}) {
            MangleLine x = Check.told("plain 9;sun 0;");
            x.alter(0, 2, wet);
            x.days(1);
            due("from WET " + wet, x.one(0, 2), 8);
        }
        for (int soak : new int[] {1, 20}) {
            MangleLine x = Check.told("plain 9;sun 0;");
            x.set(4, soak);
            x.days(1);
            due("SOAK " + soak, x.one(0, 2), soak);
        }
    }

    private static void promise15AsManyOnTheLineAsThereArePegs() {
        for (int pegs = 0; pegs <= 6; pegs++) {
            MangleLine x = Check.told("plain 9;plain 9;plain 9;plain 9;plain 9;plain 9;batch 6;sun 0 0;");
            x.set(2, pegs);
            x.days(1);
            due("LINE by " + pegs + " PEGS", x.rule(3), (1 << pegs) - 1);
            due("the others stay in the HEAP", x.rule(2), 63 - ((1 << pegs) - 1));
            due("boiled all the same", x.rule(5), 36);
            due("and wet", x.count(4), 48);
            x.days(1);
            due("boiled again who stayed", x.rule(5), 36 - 3 * (6 - pegs));
            due("LINE as it was", x.rule(3), (1 << pegs) - 1);
        }
    }

    private static void promise15APegThatComesFreeOnADayIsTakenOnTheNext() {
        MangleLine x = Check.told("plain 0;plain 0;batch 6;pegs 1;soak 4;");
        x.days(1);
        due("HOME", x.rule(4), 1);
        due("not yet on the LINE", x.rule(2), 2);
        x.days(1);
        due("HOME", x.rule(4), 3);
    }

    private static void promise15DriedTo0AtLeastAlsoOnTheDayItIsBoiled() {
        int[] soaks = {3, 4, 5, 9};
        int[] wets = {0, 0, 1, 5};
        for (int k = 0; k < soaks.length; k++) {
            MangleLine x = Check.told("plain 0;soak " + soaks[k] + ";");
            due("came HOME", x.days(1), wets[k] == 0 ? 1 : 0);
            due("SOAK " + soaks[k] + " by a SUN of 4", x.one(0, 2), wets[k]);
        }
    }

    private static void promise15NoSunDriesNothing() {
        MangleLine x = Check.told("plain 0;creased 0;soak 1;sun 0 1;");
        x.days(1);
        due("by a SUN of 0", x.count(4), 2);
        x.days(1);
        due("by a SUN of 1: a creased one none", x.count(4), 1);
        due("HOME", x.rule(4), 1);
        x.alter(1, 2, 0);
        x.shine(2, 0);
        due("a dry one is taken off by no SUN too", x.days(1), 1);
    }

    private static void promise15ASunOf5OrMoreBleaches() {
        for (int sun = 0; sun <= 9; sun++) {
            MangleLine x = Check.told("plain 9;plain 9;plain 0;blue 0;batch 1;pegs 6;soak 20;");
            x.shine(0, sun);
            x.days(1);
            due("on the LINE by a SUN of " + sun, x.one(0, 1), sun >= 5 ? 8 : 9);
            due("in the HEAP by a SUN of " + sun, x.one(1, 1), 9);
            MangleLine y = Check.told("plain 0;blue 0;soak 20;");
            y.shine(0, sun);
            y.days(1);
            due("0 at least", y.one(0, 1), 0);
        }
        MangleLine z = Check.told("plain 0;soak 4;sun 4 9;");
        z.days(1);
        z.alter(0, 1, 7);
        z.days(1);
        due("at HOME", z.one(0, 1), 7);
    }

    private static void promise15HomeByPassOrLess() {
        for (int pass : new int[] {0, 1, 30}) {
            for (int more = -1; more <= 1; more++) {
                int grey = pass + more;
                if (grey >= 0) {
                    MangleLine x = Check.told("plain 0;blue 0;soak 4;");
                    x.alter(0, 1, grey);
                    x.set(3, pass);
                    due("GREY " + grey + " by PASS " + pass, x.days(1), more <= 0 ? 1 : 0);
                    due("where it is", x.one(0, 3), more <= 0 ? 2 : 0);
                }
            }
        }
        MangleLine y = Check.told("plain 6;blue 0;pass 5;soak 5;sun 5;");
        due("bleached ahead of it", y.days(1), 1);
    }

    private static void promise15TheWeekTurnsOver() {
        // Behind the seventh SUN comes the first: nothing dries but on day 0 of the week.
        MangleLine x = Check.told("plain 0;soak 18;sun 9 0 0 0 0 0 0;");
        due("seven DAYS", x.days(7), 0);
        due("WET", x.one(0, 2), 9);
        due("the eighth", x.days(1), 1);
        MangleLine y = Check.told("sun 0 0 0 0 0 0 9;");
        y.days(6);
        y.bring(0, 0);
        due("the seventh", y.days(1), 1);
    }

    // ---- promise 16: runs

    private static void promise16OutOfBoundsIsBad() {
        for (int n : Check.outside(0, 60)) {
            for (int what = 0; what <= 4; what++) {
                int w = what;
                CHECK.refuses("runs(" + n + ", " + w + ")", -1, x -> x.runs(n, w));
            }
        }
        for (int what : Check.outside(0, 4)) {
            CHECK.refuses("runs(0, " + what + ")", -1, x -> x.runs(0, what));
            CHECK.refuses("runs(60, " + what + ")", -1, x -> x.runs(60, what));
        }
    }

    private static void promise16BehindNoDaysItIsAsItIs() {
        int[] busy = {1, 46, 6, 0, 0};
        int[] full = {1, 146, 2, 0, 0};
        for (int what = 0; what <= 4; what++) {
            int w = what;
            CHECK.leaves("runs(0, " + w + ")", Scene.NEW, 0, x -> x.runs(0, w));
            CHECK.leaves("runs(0, " + w + ")", Scene.BUSY, busy[w], x -> x.runs(0, w));
            CHECK.leaves("runs(0, " + w + ")", Scene.FULL, full[w], x -> x.runs(0, w));
        }
    }

    private static void promise16BehindSixtyDays() {
        MangleLine x = Check.told(SIXTY);
        due("none is HOME behind 59", x.runs(59, 0), 0);
        due("it is HOME behind 60", x.runs(60, 0), 1);
        due("on the LINE behind 59", x.runs(59, 2), 1);
        due("on the LINE no more behind 60", x.runs(60, 2), 0);
        due("boiled 20 times", x.runs(60, 3), 20);
        due("on 40 of them none was", x.runs(60, 4), 40);
        due("clean", x.runs(60, 1), 0);
        due("boiled 20 times behind 58", x.runs(58, 3), 20);
        due("boiled 19 times behind 57", x.runs(57, 3), 19);
    }

    private static void promise16NobodyIsThere() {
        MangleLine x = new MangleLine();
        due("HOME", x.runs(60, 0), 0);
        due("GREY", x.runs(60, 1), 0);
        due("LINE", x.runs(60, 2), 0);
        due("boiled", x.runs(60, 3), 0);
        due("on all of them none was", x.runs(60, 4), 60);
    }

    private static void promise16AsManyTimesAsMayBe() {
        MangleLine x = Check.told("plain 60;plain 60;plain 60;plain 60;plain 60;plain 60;blue 0;batch 6;pegs 0;");
        due("six a DAY", x.runs(60, 3), 360);
        due("never none", x.runs(60, 4), 0);
        due("GREY", x.runs(60, 1), 360);
    }

    private static void promise16BeyondTheLastDay() {
        MangleLine x = Check.daysTo(Check.told("sun 0 0 0 0 9 9 9;"), 999);
        x.bring(0, 0);
        due("SUN of DAY 999", x.rule(6), 9);
        due("behind 1 DAY", x.runs(1, 0), 1);
        x.set(4, 20);
        // DAY 999 and 1000 have a SUN of 9, then four have none, DAY 1005 has 9 again.
        due("behind 6 DAYS", x.runs(6, 0), 0);
        due("behind 7 DAYS", x.runs(7, 0), 1);
        due("DAY", x.rule(1), 999);
    }

    // ---- promise 17: ahead

    private static void promise17NoSuchOneIsBad() {
        for (int i : Check.outside(0, 5)) {
            CHECK.refuses("ahead(" + i + ", 1, 0)", -1, x -> x.ahead(i, 1, 0));
        }
        CHECK.leaves("ahead(0, 1, 0)", Scene.NEW, -1, x -> x.ahead(0, 1, 0));
        CHECK.leaves("ahead(4, 1, 0)", Scene.BUSY, -1, x -> x.ahead(4, 1, 0));
    }

    private static void promise17OutOfBoundsIsBad() {
        for (int n : Check.outside(0, 60)) {
            CHECK.refuses("ahead(0, " + n + ", 0)", -1, x -> x.ahead(0, n, 0));
        }
        for (int what : Check.outside(0, 2)) {
            CHECK.refuses("ahead(0, 0, " + what + ")", -1, x -> x.ahead(0, 0, what));
            CHECK.refuses("ahead(0, 60, " + what + ")", -1, x -> x.ahead(0, 60, what));
        }
    }

    private static void promise17BehindNoDaysItIsAsItIs() {
        int[][] busy = {{0, 0, 2}, {20, 5, 1}, {23, 3, 1}, {3, 11, 0}};
        for (int i = 0; i < 4; i++) {
            for (int what = 0; what <= 2; what++) {
                int one = i;
                int w = what;
                CHECK.leaves("ahead(" + i + ", 0, " + w + ")", Scene.BUSY, busy[i][w], x -> x.ahead(one, 0, w));
            }
        }
    }

    private static void promise17BehindSixtyDays() {
        MangleLine x = Check.told("plain 0;" + SIXTY);
        due("on the LINE behind 59", x.ahead(1, 59, 2), 1);
        due("WET behind 59", x.ahead(1, 59, 1), 1);
        due("HOME behind 60", x.ahead(1, 60, 2), 2);
        due("dry behind 60", x.ahead(1, 60, 1), 0);
        due("GREY behind 57", x.ahead(1, 57, 0), 1);
        due("GREY behind 60", x.ahead(1, 60, 0), 0);
        CHECK.onlyAsks("ahead(0, 60, 0)", y -> y.ahead(0, 60, 0));
    }

    private static void promise17BeyondTheLastDay() {
        MangleLine x = Check.daysTo(Check.told("sun 0 0 0 0 9 9 9;"), 999);
        x.bring(0, 9);
        x.set(4, 20);
        due("WET behind 1", x.ahead(0, 1, 1), 11);
        due("WET behind 2", x.ahead(0, 2, 1), 2);
        due("WET behind 6", x.ahead(0, 6, 1), 2);
        due("WET behind 7", x.ahead(0, 7, 1), 0);
    }

    // ---- promise 18: home

    private static void promise18NoSuchOneIsBad() {
        for (int i : Check.outside(0, 5)) {
            CHECK.refuses("home(" + i + ")", -1, x -> x.home(i));
        }
        CHECK.leaves("home(0)", Scene.NEW, -1, x -> x.home(0));
        CHECK.leaves("home(4)", Scene.BUSY, -1, x -> x.home(4));
    }

    private static void promise18WhoIsHomeIsSoBehindNoDays() {
        CHECK.leaves("home(0)", Scene.BUSY, 0, x -> x.home(0));
        CHECK.leaves("home(0)", Scene.FULL, 0, x -> x.home(0));
        MangleLine x = Scene.BUSY.make();
        x.alter(0, 1, 60);
        x.set(2, 0);
        due("however grey, without PEGS", x.home(0), 0);
    }

    private static void promise18BehindSixtyDaysAndBehindNone() {
        MangleLine x = Check.told(SIXTY);
        due("behind 60", x.home(0), 60);
        x.alter(0, 1, 21);
        due("not behind 60", x.home(0), -4);
        x.days(3);
        due("but then", x.home(0), 60);
        x.set(2, 0);
        due("never", x.home(0), -4);
        MangleLine y = Check.told("plain 0;soak 4;");
        due("behind 1", y.home(0), 1);
    }

    private static void promise18TheWeekTurnsOver() {
        MangleLine x = Check.told("plain 0;soak 18;sun 9 0 0 0 0 0 0;");
        due("by DAY 0 and DAY 7", x.home(0), 8);
        x.days(1);
        due("by DAY 7", x.home(0), 7);
        x.days(6);
        due("by this DAY", x.home(0), 1);
    }

    private static void promise18ChangesNothing() {
        CHECK.leaves("home(5)", Scene.FULL, -4, x -> x.home(5));
        CHECK.onlyAsks("home(3)", x -> x.home(3));
    }

    // ---- promise 19: done

    private static void promise19NobodyIsThere() {
        CHECK.leaves("done()", Scene.NEW, 0, x -> x.done());
    }

    private static void promise19AllAreHomeBehindNoDays() {
        MangleLine x = Check.told("plain 0;plain 0;soak 4;");
        due("behind 1", x.done(), 1);
        x.days(1);
        due("behind 0", x.done(), 0);
        x.fetch(1);
        due("behind 1 again", x.done(), 1);
        x.bring(0, 0);
        due("whoever is more", x.done(), 1);
    }

    private static void promise19BehindSixtyDaysAndBehindNone() {
        MangleLine x = Check.told("plain 0;" + SIXTY);
        due("the last of all, behind 60", x.done(), 60);
        due("the first of all, behind 3", x.home(0), 3);
        x.alter(1, 1, 21);
        due("not behind 60", x.done(), -4);
        x.alter(1, 1, 0);
        due("all behind 3", x.done(), 3);
        x.set(2, 0);
        due("never", x.done(), -4);
    }

    private static void promise19TheWeekTurnsOverAlsoBeyondTheLastDay() {
        // DAY 999 is day 5 of the week.
        MangleLine x = Check.daysTo(Check.told("soak 9;sun 0 0 0 0 9 0 0;"), 999);
        x.bring(0, 0);
        x.bring(0, 0);
        due("by DAY 1005", x.done(), 7);
        due("DAY", x.rule(1), 999);
    }

    private static void promise19ChangesNothing() {
        CHECK.onlyAsks("done()", x -> x.done());
    }
}
