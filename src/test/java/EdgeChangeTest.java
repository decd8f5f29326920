/** The edges of promises 10 to 14, a test for each sentence that names one. */
public final class EdgeChangeTest {
    private static final Check CHECK = new Check("EdgeChangeTest");
    private static final int[] FIELD_MOST = {3, 60, 20};
    private static final int[] RULE_LEAST = {0, 1, 0, 0, 1};
    private static final int[] RULE_MOST = {9, 6, 6, 30, 20};

    public static void main(String[] args) {
        CHECK.runPromises(EdgeChangeTest.class, 10, 14);
        CHECK.end();
    }

    private static void due(String call, long got, long want) {
        CHECK.due(call, got, want);
    }

    // ---- promise 10: alter

    private static void promise10NoSuchOneIsBad() {
        for (int i : Check.outside(0, 5)) {
            CHECK.refuses("alter(" + i + ", 1, 5)", -1, x -> x.alter(i, 1, 5));
        }
        for (int what = 0; what < 3; what++) {
            int w = what;
            CHECK.leaves("alter(0, " + w + ", 0)", Scene.NEW, -1, x -> x.alter(0, w, 0));
            CHECK.leaves("alter(4, " + w + ", 0)", Scene.BUSY, -1, x -> x.alter(4, w, 0));
        }
    }

    private static void promise10TheFirstAndTheLastOne() {
        MangleLine x = Scene.FULL.make();
        due("alter(0, 1, 33)", x.alter(0, 1, 33), 0);
        due("alter(5, 1, 34)", x.alter(5, 1, 34), 50);
        due("ONE 0", x.one(0, 1), 33);
        due("ONE 5", x.one(5, 1), 34);
        due("ONE 1 is as it was", x.one(1, 1), 10);
        due("ONE 4 is as it was", x.one(4, 1), 38);
    }

    private static void promise10WhatOutOfBoundsIsBad() {
        for (int what : Check.outside(0, 2)) {
            CHECK.refuses("alter(0, " + what + ", 1)", -1, x -> x.alter(0, what, 1));
        }
    }

    private static void promise10TheLeastAndTheGreatest() {
        for (int what = 0; what < 3; what++) {
            MangleLine x = Check.told("wicked 5;wicked 5;");
            int was = x.one(1, what);
            due("to the greatest", x.alter(1, what, FIELD_MOST[what]), was);
            due("it is", x.one(1, what), FIELD_MOST[what]);
            due("to the least", x.alter(1, what, 0), FIELD_MOST[what]);
            due("it is", x.one(1, what), 0);
            due("to what it is", x.alter(1, what, 0), 0);
            due("the other is as it was", x.one(0, what), was);
        }
    }

    private static void promise10OutOfItsBoundsIsBad() {
        for (int what = 0; what < 3; what++) {
            int w = what;
            for (int v : Check.outside(0, FIELD_MOST[what])) {
                CHECK.refuses("alter(0, " + w + ", " + v + ")", -1, x -> x.alter(0, w, v));
                CHECK.leaves("alter(3, " + w + ", " + v + ")", Scene.BUSY, -1, x -> x.alter(3, w, v));
                CHECK.leaves("alter(5, " + w + ", " + v + ")", Scene.FULL, -1, x -> x.alter(5, w, v));
            }
        }
    }

    private static void promise10WhereItIsStays() {
        MangleLine x = Scene.BUSY.make();
        x.alter(0, 1, 60);
        x.alter(0, 2, 20);
        x.alter(1, 2, 0);
        x.alter(3, 1, 0);
        due("HOME, however grey and wet", x.one(0, 3), 2);
        due("on the LINE, however dry", x.one(1, 3), 1);
        due("in the HEAP, however clean", x.one(3, 3), 0);
    }

    // ---- promise 11: set

    private static void promise11WhatOutOfBoundsIsBad() {
        for (int what : Check.outside(0, 4)) {
            CHECK.refuses("set(" + what + ", 1)", -1, x -> x.set(what, 1));
        }
    }

    private static void promise11TheLeastAndTheGreatest() {
        int[] atFirst = {3, 2, 3, 0, 8};
        for (int what = 0; what < 5; what++) {
            MangleLine x = new MangleLine();
            due("to the least", x.set(what, RULE_LEAST[what]), atFirst[what]);
            due("it is", x.told(what), RULE_LEAST[what]);
            due("to the greatest", x.set(what, RULE_MOST[what]), RULE_LEAST[what]);
            due("it is", x.told(what), RULE_MOST[what]);
            for (int other = 0; other < 5; other++) {
                due("the others are as they were", x.told(other), other == what ? RULE_MOST[other] : atFirst[other]);
            }
        }
    }

    private static void promise11OutOfItsBoundsIsBad() {
        for (int what = 0; what < 5; what++) {
            int w = what;
            for (int v : Check.outside(RULE_LEAST[what], RULE_MOST[what])) {
                CHECK.refuses("set(" + w + ", " + v + ")", -1, x -> x.set(w, v));
            }
        }
    }

    private static void promise11WhoIsOnTheLineStaysThere() {
        for (int pegs = 0; pegs <= 2; pegs++) {
            MangleLine x = Scene.BUSY.make();
            due("two on the LINE", x.rule(3), 6);
            due("set(2, " + pegs + ")", x.set(2, pegs), 2);
            due("they stay there", x.rule(3), 6);
            x.shine(1, 0);
            x.days(1);
            due("no peg for another", x.rule(3), 6);
        }
        MangleLine x = Scene.BUSY.make();
        x.set(2, 3);
        x.shine(1, 0);
        x.days(1);
        due("a third peg", x.rule(3), 14);
    }

    // ---- promise 12: shine

    private static void promise12ADayOutOfTheWeekIsBad() {
        for (int d : Check.outside(0, 6)) {
            CHECK.refuses("shine(" + d + ", 5)", -1, x -> x.shine(d, 5));
        }
    }

    private static void promise12OutOfItsBoundsIsBad() {
        for (int v : Check.outside(0, 9)) {
            for (int day = 0; day < 7; day += 6) {
                int d = day;
                CHECK.refuses("shine(" + d + ", " + v + ")", -1, x -> x.shine(d, v));
            }
        }
    }

    private static void promise12TheLeastAndTheGreatest() {
        for (int day = 0; day < 7; day++) {
            MangleLine x = new MangleLine();
            due("to the greatest", x.shine(day, 9), 4);
            due("it is", x.sun(day), 9);
            due("to the least", x.shine(day, 0), 9);
            due("it is", x.sun(day), 0);
            due("the other days are as they were", x.count(5), 24);
        }
    }

    private static void promise12TheDayOfTheWeekNotTheDay() {
        MangleLine x = Check.daysTo(new MangleLine(), 8);
        x.shine(0, 9);
        due("SUN of DAY 8", x.rule(6), 4);
        x.shine(1, 7);
        due("SUN of DAY 8", x.rule(6), 7);
    }

    // ---- promise 13: bring

    private static void promise13KindOutOfBoundsIsBadAlsoWhereItIsFull() {
        for (int kind : Check.outside(0, 3)) {
            CHECK.refuses("bring(" + kind + ", 0)", -1, x -> x.bring(kind, 0));
        }
    }

    private static void promise13GreyOutOfBoundsIsBadAlsoWhereItIsFull() {
        for (int grey : Check.outside(0, 60)) {
            CHECK.refuses("bring(0, " + grey + ")", -1, x -> x.bring(0, grey));
        }
    }

    private static void promise13TheLeastAndTheGreatest() {
        MangleLine x = new MangleLine();
        due("bring(0, 0)", x.bring(0, 0), 1);
        due("bring(3, 60)", x.bring(3, 60), 2);
        due("KIND 0", x.one(0, 0), 0);
        due("GREY 0", x.one(0, 1), 0);
        due("KIND 3", x.one(1, 0), 3);
        due("GREY 60", x.one(1, 1), 60);
    }

    private static void promise13TheSixthIsTakenTheSeventhIsNot() {
        MangleLine x = new MangleLine();
        for (int i = 1; i <= 6; i++) {
            due("bring the " + i + "th", x.bring(1, i), i);
        }
        due("bring the 7th", x.bring(1, 7), -3);
        due("ONES", x.rule(0), 6);
        due("the 6th", x.one(5, 1), 6);
        CHECK.leaves("bring(0, 0)", Scene.FULL, -3, y -> y.bring(0, 0));
        CHECK.leaves("bring(3, 60)", Scene.FULL, -3, y -> y.bring(3, 60));
    }

    private static void promise13InTheHeapAndDryWhoeverStoodThere() {
        MangleLine x = Check.told("plain 0;plain 0;soak 20;");
        x.days(1);
        due("who stood there was on the LINE", x.rule(3), 3);
        // A question BY DAYS ahead of it must not be left in what is told anew.
        due("who stood there would be on the LINE", x.runs(1, 2), 3);
        due("nobody", x.text(), 0);
        for (int i = 0; i < 2; i++) {
            due("bring(2, 9)", x.bring(2, 9), i + 1);
            due("WET 0", x.one(i, 2), 0);
            due("in the HEAP", x.one(i, 3), 0);
        }
    }

    private static void promise13BehindAllOthers() {
        MangleLine x = Scene.BUSY.make();
        due("bring(2, 44)", x.bring(2, 44), 5);
        due("ONE 4", x.one(4, 1), 44);
        due("ONE 3 is as it was", x.one(3, 1), 3);
        due("where they are", x.rule(2), 8 + 16);
    }

    // ---- promise 14: fetch

    private static void promise14NoSuchOneIsBad() {
        for (int i : Check.outside(0, 5)) {
            CHECK.refuses("fetch(" + i + ")", -1, x -> x.fetch(i));
        }
        CHECK.leaves("fetch(0)", Scene.NEW, -1, x -> x.fetch(0));
        CHECK.leaves("fetch(4)", Scene.BUSY, -1, x -> x.fetch(4));
    }

    private static void promise14InTheHeapIsState() {
        CHECK.leaves("fetch(3)", Scene.BUSY, -2, x -> x.fetch(3));
        for (int i = 2; i <= 5; i++) {
            int one = i;
            CHECK.leaves("fetch(" + one + ")", Scene.FULL, -2, x -> x.fetch(one));
        }
        MangleLine x = new MangleLine();
        x.bring(0, 0);
        due("who was just brought", x.fetch(0), -2);
    }

    private static void promise14FromTheLineAndFromHome() {
        MangleLine x = Scene.BUSY.make();
        due("from HOME", x.fetch(0), 2);
        due("again", x.fetch(0), -2);
        due("from the LINE", x.fetch(2), 1);
        due("again", x.fetch(2), -2);
        due("HEAP", x.rule(2), 13);
        due("LINE", x.rule(3), 2);
        due("HOME", x.rule(4), 0);
        due("GREY stays", x.one(2, 1), 23);
        due("WET stays", x.one(2, 2), 3);
        due("DAY stays", x.rule(1), 8);
    }

    private static void promise14APegIsFreeThen() {
        MangleLine x = Check.told("plain 0;plain 0;pegs 1;soak 20;");
        x.days(1);
        due("ONE 0 has the peg", x.rule(3), 1);
        x.fetch(0);
        x.set(1, 1);
        x.alter(0, 0, 2);
        x.days(1);
        due("ONE 0 comes first again", x.rule(3), 1);
        due("boiled anew", x.one(0, 2), 18);
    }
}
