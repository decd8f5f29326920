/** A DAY, and promises 15 to 19: days, runs, ahead, home, done. */
public final class DaysTest {
    private static final Check CHECK = new Check("DaysTest");

    public static void main(String[] args) {
        theCopper();
        fewerPegsThanBoiled();
        theLine();
        bleaching();
        passing();
        dryBeforeItIsBoiled();
        days();
        lastDay();
        runs();
        runsChangesNothing();
        ahead();
        homeAndDone();
        sixtiethDay();
        CHECK.end();
    }

    private static void due(String call, long got, long want) {
        CHECK.due(call, got, want);
    }

    private static void theCopper() {
        MangleLine x = Check.told("plain 9;wicked 9;creased 2;napkin 9;blue 4;batch 3;pegs 6;soak 7;sun 0;");
        x.days(1);
        int[] greys = {5, 7, 0, 9};
        int[] wets = {7, 7, 7, 0};
        for (int i = 0; i < 4; i++) {
            due("GREY of " + i, x.one(i, 1), greys[i]);
            due("WET of " + i, x.one(i, 2), wets[i]);
        }
        due("three on the LINE", x.rule(3), 7);
        due("one in the HEAP", x.rule(2), 8);
        due("WET of all", x.count(4), 21);
    }

    private static void fewerPegsThanBoiled() {
        MangleLine x = Check.told("plain 9;plain 9;plain 9;batch 3;pegs 1;sun 0 0;");
        x.days(1);
        due("one peg", x.rule(3), 1);
        due("the others stay", x.rule(2), 6);
        due("boiled all the same", x.one(2, 1), 6);
        due("and wet", x.one(2, 2), 8);
        x.days(1);
        due("boiled again", x.one(2, 1), 3);
        due("not boiled on the LINE", x.one(0, 1), 6);
        MangleLine y = Check.told("plain 9;plain 9;batch 1;pegs 0;");
        y.days(2);
        due("without pegs the first is boiled again", y.one(0, 1), 3);
        due("and the second never", y.one(1, 1), 9);
    }

    private static void theLine() {
        MangleLine x = Check.told("plain 0;wicked 0;creased 0;napkin 0;batch 6;pegs 6;soak 20;sun 3 4;");
        x.days(1);
        int[] wets = {17, 17, 19, 14};
        for (int i = 0; i < 4; i++) {
            due("WET of " + i, x.one(i, 2), wets[i]);
        }
        x.days(1);
        int[] then = {13, 13, 17, 6};
        for (int i = 0; i < 4; i++) {
            due("WET then of " + i, x.one(i, 2), then[i]);
        }
        x.days(1);
        due("the napkin is HOME", x.rule(4), 8);
        due("its WET", x.one(3, 2), 0);
    }

    private static void bleaching() {
        MangleLine x = Check.told("plain 9;plain 1;blue 0;batch 6;soak 20;sun 4 5 6;");
        x.days(1);
        due("a SUN of 4", x.one(0, 1), 9);
        x.days(1);
        due("a SUN of 5", x.one(0, 1), 8);
        x.days(1);
        due("a SUN of 6", x.one(0, 1), 7);
        due("0 at least", x.one(1, 1), 0);
        MangleLine y = Check.told("plain 9;plain 9;blue 0;batch 1;soak 20;sun 9;");
        y.days(1);
        due("who is in the HEAP is not bleached", y.one(1, 1), 9);
    }

    private static void passing() {
        MangleLine x = Check.told("plain 9;plain 8;blue 3;batch 6;pass 5;soak 4;");
        due("one comes HOME", x.days(1), 1);
        due("HOME: PASS or less", x.rule(4), 2);
        due("HEAP: above PASS", x.rule(2), 1);
        due("dry in the HEAP", x.one(0, 2), 0);
        MangleLine y = Check.told("plain 9;blue 3;pass 5;soak 5;sun 5;");
        due("bleached first, then passed", y.days(1), 1);
    }

    private static void dryBeforeItIsBoiled() {
        MangleLine x = Check.told("plain 0;soak 9;sun 4 0;");
        x.days(1);
        due("on the LINE", x.rule(3), 1);
        x.alter(0, 2, 0);
        due("a dry one goes HOME even by no SUN", x.days(1), 1);
        MangleLine y = Check.told("plain 0;soak 9;sun 9;");
        y.alter(0, 2, 3);
        y.days(1);
        due("WET becomes SOAK, no more", y.rule(4), 1);
    }

    private static void days() {
        MangleLine x = Check.told("plain 7;wicked 4;creased 0;batch 2;pegs 2;blue 5;soak 6;sun 6 3;");
        due("days(-1)", x.days(-1), -1);
        due("days(31)", x.days(31), -1);
        due("days(0)", x.days(0), 0);
        due("DAY", x.rule(1), 0);
        due("days(30)", x.days(30), 3);
        due("DAY", x.rule(1), 30);
        due("SUN of DAY 30", x.rule(6), 4);
        due("nobody comes HOME twice", x.days(30), 0);
        x.fetch(0);
        due("but who is fetched", x.days(30), 1);
    }

    private static void lastDay() {
        MangleLine x = Check.told("sun 0 1 2 3 4 5 6;");
        for (int k = 0; k < 33; k++) {
            due("days(30)", x.days(30), 0);
        }
        due("DAY 990", x.rule(1), 990);
        due("days(10)", x.days(10), -3);
        due("days(31)", x.days(31), -1);
        due("days(9)", x.days(9), 0);
        due("DAY 999", x.rule(1), 999);
        due("SUN of DAY 999", x.rule(6), 999 % 7);
        due("days(1)", x.days(1), -3);
        due("days(0)", x.days(0), 0);
        x.bring(0, 0);
        due("BY DAYS goes on", x.done(), 2);
    }

    private static void runs() {
        MangleLine x = Check.told("plain 3;plain 9;batch 1;soak 8;");
        int[][] wants = {
            {0, 12, 0, 0, 0},
            {0, 9, 1, 1, 0},
            {1, 6, 2, 2, 0},
            {1, 6, 0, 2, 1},
            {1, 3, 2, 3, 1},
            {1, 3, 0, 3, 2},
            {1, 0, 2, 4, 2},
            {2, 0, 0, 4, 3},
            {2, 0, 0, 4, 4},
        };
        for (int n = 0; n < wants.length; n++) {
            for (int w = 0; w < 5; w++) {
                due("runs(" + n + ", " + w + ")", x.runs(n, w), wants[n][w]);
            }
        }
        due("runs(-1, 0)", x.runs(-1, 0), -1);
        due("runs(61, 0)", x.runs(61, 0), -1);
        due("runs(1, 5)", x.runs(1, 5), -1);
        due("runs(1, -1)", x.runs(1, -1), -1);
        due("runs(60, 4)", x.runs(60, 4), 56);
        MangleLine y = Check.told("plain 9;plain 9;plain 9;batch 2;pegs 0;");
        due("two a day", y.runs(10, 3), 20);
        due("never none", y.runs(10, 4), 0);
        due("GREY then", y.runs(10, 1), 9);
        MangleLine z = new MangleLine();
        due("nobody is boiled", z.runs(10, 3), 0);
        due("on all of them", z.runs(10, 4), 10);
        due("nobody HOME", z.runs(10, 0), 0);
    }

    private static void runsChangesNothing() {
        MangleLine x = Check.told("plain 7;plain 3;");
        x.runs(20, 0);
        x.ahead(0, 20, 0);
        x.home(0);
        x.done();
        due("DAY", x.rule(1), 0);
        due("GREY", x.rule(5), 10);
        due("HEAP", x.rule(2), 3);
    }

    private static void ahead() {
        MangleLine x = Check.told("plain 7;soak 9;sun 4 4 4;");
        int[] greys = {7, 4, 4, 4, 1, 1, 1, 0};
        int[] wets = {0, 5, 1, 0, 5, 1, 0, 5};
        int[] places = {0, 1, 1, 0, 1, 1, 0, 1};
        for (int n = 0; n < greys.length; n++) {
            due("ahead(0, " + n + ", 0)", x.ahead(0, n, 0), greys[n]);
            due("ahead(0, " + n + ", 1)", x.ahead(0, n, 1), wets[n]);
            due("ahead(0, " + n + ", 2)", x.ahead(0, n, 2), places[n]);
        }
        due("ahead(0, 60, 2)", x.ahead(0, 60, 2), 2);
        due("ahead(0, 61, 2)", x.ahead(0, 61, 2), -1);
        due("ahead(0, -1, 2)", x.ahead(0, -1, 2), -1);
        due("ahead(1, 1, 2)", x.ahead(1, 1, 2), -1);
        due("ahead(-1, 1, 2)", x.ahead(-1, 1, 2), -1);
        due("ahead(0, 1, 3)", x.ahead(0, 1, 3), -1);
        due("ahead(0, 1, -1)", x.ahead(0, 1, -1), -1);
    }

    private static void homeAndDone() {
        MangleLine x = Check.told("plain 7;plain 0;soak 9;");
        due("home(0)", x.home(0), 9);
        due("home(1)", x.home(1), 3);
        due("done()", x.done(), 9);
        due("home(2)", x.home(2), -1);
        due("home(-1)", x.home(-1), -1);
        x.days(3);
        due("home(1) when HOME", x.home(1), 0);
        due("home(0) then", x.home(0), 6);
        due("done() then", x.done(), 6);
        x.set(0, 0);
        due("never", x.home(0), -4);
        due("done never", x.done(), -4);
        due("but it is HOME", x.home(1), 0);
    }

    private static void sixtiethDay() {
        // Each round is three DAYS by a SUN of 4, BLUE 1: GREY 20 is 0 behind 60 DAYS, GREY 21 is not.
        MangleLine x = Check.told("plain 20;blue 1;soak 9;");
        due("home on the 60th", x.home(0), 60);
        due("done on the 60th", x.done(), 60);
        due("runs(60, 0)", x.runs(60, 0), 1);
        due("runs(59, 0)", x.runs(59, 0), 0);
        MangleLine y = Check.told("plain 59;blue 1;soak 4;");
        due("home on the 59th", y.home(0), 59);
        due("done on the 59th", y.done(), 59);
        y.alter(0, 1, 60);
        due("and by 60", y.done(), 60);
        x.alter(0, 1, 21);
        due("none later", x.home(0), -4);
        due("none later", x.done(), -4);
    }
}
