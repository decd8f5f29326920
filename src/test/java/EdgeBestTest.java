/** The edges of promises 20 to 26, a test for each sentence that names one. */
public final class EdgeBestTest {
    private static final Check CHECK = new Check("EdgeBestTest");
    /** Each round takes three DAYS and whitens by 1, so that GREY 20 is HOME behind 60 DAYS. */
    private static final String SIXTY = "plain 20;blue 1;soak 9;";
    private static final String SIX = "plain 0;plain 0;plain 0;plain 0;plain 0;plain 0;";

    public static void main(String[] args) {
        CHECK.runPromises(EdgeBestTest.class, 20, 26);
        CHECK.end();
    }

    private static void due(String call, long got, long want) {
        CHECK.due(call, got, want);
    }

    /** All of SIX are HOME, and DAY is 1. */
    private static MangleLine allHome() {
        MangleLine x = Check.told(SIX + "batch 6;pegs 6;soak 4;");
        x.days(1);
        return x;
    }

    // ---- promise 20: blue

    private static void promise20OutOfBoundsIsBad() {
        for (int n : Check.outside(0, 60)) {
            CHECK.refuses("blue(" + n + ")", -1, x -> x.blue(n));
        }
    }

    private static void promise20TheLeastAndTheGreatestBlue() {
        MangleLine x = Check.told("plain 18;");
        due("9 and 9 are 18", x.blue(4), 9);
        due("three rounds", x.blue(6), 6);
        x.alter(0, 1, 19);
        due("10 are not to be had", x.blue(4), -4);
        x.alter(0, 1, 0);
        due("none is needed", x.blue(2), 0);
        x.set(0, 9);
        due("however much there is", x.blue(2), 0);
        due("but too soon", x.blue(1), -4);
    }

    private static void promise20BehindNoDays() {
        due("nobody", new MangleLine().blue(0), 0);
        due("all are HOME", allHome().blue(0), 0);
        due("one is not", Check.told("plain 0;").blue(0), -4);
    }

    private static void promise20BehindSixtyDays() {
        MangleLine x = Check.told("plain 30;");
        due("thirty rounds of 1", x.blue(60), 1);
        due("twenty-nine rounds of 2", x.blue(59), 2);
        x.alter(0, 1, 31);
        due("thirty rounds of 2", x.blue(60), 2);
    }

    private static void promise20ChangesNothing() {
        CHECK.onlyAsks("blue(0)", x -> x.blue(0));
        CHECK.onlyAsks("blue(60)", x -> x.blue(60));
    }

    // ---- promise 21: pegs

    private static void promise21OutOfBoundsIsBad() {
        for (int n : Check.outside(0, 60)) {
            CHECK.refuses("pegs(" + n + ")", -1, x -> x.pegs(n));
        }
    }

    /** Each dries in 20 DAYS: six by 6 PEGS in 20, by 3 in 40, by 2 in 60. */
    private static void promise21TheLeastAndTheGreatestPegsUpToSixtyDays() {
        MangleLine x = Check.told(SIX + "batch 6;soak 20;sun 1 1 1 1 1 1 1;");
        due("pegs(19)", x.pegs(19), -4);
        due("pegs(20)", x.pegs(20), 6);
        due("pegs(39)", x.pegs(39), 6);
        due("pegs(40)", x.pegs(40), 3);
        due("pegs(59)", x.pegs(59), 3);
        due("pegs(60)", x.pegs(60), 2);
        x.set(4, 10);
        due("six by one PEG in 60", x.pegs(60), 1);
        due("not in 59", x.pegs(59), 2);
    }

    private static void promise21NoPegsWhereAllAreOnTheLine() {
        MangleLine x = Check.told("plain 0;plain 0;batch 6;");
        x.days(1);
        due("on the LINE", x.rule(3), 3);
        due("they stay there", x.pegs(1), 0);
        x.bring(0, 0);
        due("a third needs one", x.pegs(60), 1);
    }

    private static void promise21BehindNoDays() {
        due("nobody", new MangleLine().pegs(0), 0);
        due("all are HOME", allHome().pegs(0), 0);
        due("one is not", Check.told("plain 0;").pegs(0), -4);
    }

    private static void promise21ChangesNothing() {
        CHECK.onlyAsks("pegs(0)", x -> x.pegs(0));
        CHECK.onlyAsks("pegs(60)", x -> x.pegs(60));
    }

    // ---- promise 22: batch

    private static void promise22WhatOutOfBoundsIsBad() {
        for (int what : Check.outside(0, 1)) {
            CHECK.refuses("batch(" + what + ")", -1, x -> x.batch(what));
        }
    }

    private static void promise22TheLeastAndTheGreatestBatch() {
        MangleLine x = Check.told(SIX + "pegs 6;");
        due("six at once", x.batch(0), 6);
        due("behind 2 DAYS", x.batch(1), 2);
        x.set(2, 1);
        due("of several the least", x.batch(0), 1);
        due("behind 12 DAYS", x.batch(1), 12);
        MangleLine y = Check.told("plain 0;plain 0;plain 0;plain 0;plain 0;pegs 6;");
        due("five at once, not six", y.batch(0), 5);
    }

    private static void promise22NobodyOrAllHome() {
        due("nobody", new MangleLine().batch(0), 1);
        due("nobody, behind", new MangleLine().batch(1), 0);
        due("all HOME", allHome().batch(0), 1);
        due("all HOME, behind", allHome().batch(1), 0);
    }

    private static void promise22BehindSixtyDaysAndByNone() {
        MangleLine x = Check.told(SIXTY);
        due("batch(0)", x.batch(0), 1);
        due("batch(1)", x.batch(1), 60);
        x.alter(0, 1, 21);
        due("batch(0)", x.batch(0), -4);
        due("batch(1)", x.batch(1), -4);
    }

    private static void promise22AsItIsCountsToo() {
        MangleLine x = Check.told("plain 0;batch 1;");
        due("none is sooner, yet it is one", x.batch(0), 1);
        due("behind 2", x.batch(1), 2);
    }

    private static void promise22ChangesNothing() {
        CHECK.onlyAsks("batch(0)", x -> x.batch(0));
        CHECK.onlyAsks("batch(1)", x -> x.batch(1));
    }

    // ---- promise 23: swap

    private static void promise23WhatOutOfBoundsIsBad() {
        for (int what : Check.outside(0, 1)) {
            CHECK.refuses("swap(" + what + ")", -1, x -> x.swap(what));
        }
    }

    private static void promise23FewerThanTwo() {
        due("nobody", new MangleLine().swap(0), -4);
        due("nobody", new MangleLine().swap(1), -4);
        due("one", Check.told("plain 9;").swap(0), -4);
        due("one", Check.told("plain 9;").swap(1), -4);
    }

    private static void promise23TheFirstPairAndTheLast() {
        MangleLine x = Check.told("plain 0;plain 6;batch 1;");
        due("as it is", x.done(), 5);
        due("0 and 1", x.swap(0), 1);
        due("behind 4", x.swap(1), 4);
        // By two PEGS ONE 5 waits for the other four; as ONE 4 it is boiled while it waits.
        MangleLine y = Check.told("plain 0;plain 0;plain 3;plain 0;plain 0;plain 3;batch 3;pegs 2;blue 1;");
        due("as it is", y.done(), 8);
        due("4 and 5", y.swap(0), 45);
        due("behind 6", y.swap(1), 6);
    }

    private static void promise23OfSeveralTheLeast() {
        MangleLine x = Check.told("plain 0;plain 0;plain 0;plain 6;batch 1;");
        due("as it is", x.done(), 7);
        due("0 and 3, 1 and 3, 2 and 3 are alike", x.swap(0), 3);
        due("behind 6", x.swap(1), 6);
    }

    private static void promise23WhoChangesPlacesGoesWhole() {
        MangleLine kinds = Check.told("plain 0;creased 0;batch 1;");
        due("as it is", kinds.done(), 5);
        due("a creased one takes four DAYS", kinds.swap(0), 1);
        due("behind 4", kinds.swap(1), 4);
        // On the LINE both, the creased one wet for ten DAYS wherever it stands.
        MangleLine wets = Check.told("creased 0;plain 0;soak 20;");
        wets.days(1);
        wets.alter(0, 2, 20);
        wets.alter(1, 2, 2);
        due("as it is", wets.done(), 10);
        due("WET goes along", wets.swap(0), -4);
        // ONE 0 is HOME, and would be so as ONE 2.
        MangleLine places = Check.told("plain 0;batch 1;");
        places.days(2);
        places.bring(0, 0);
        places.bring(0, 6);
        due("as it is", places.done(), 5);
        due("HOME goes along", places.swap(0), 2);
        due("behind 4", places.swap(1), 4);
    }

    private static void promise23NotSoonerIsNone() {
        MangleLine x = Check.told("plain 0;plain 0;");
        due("alike", x.swap(0), -4);
        due("alike", x.swap(1), -4);
        MangleLine y = Check.told("plain 6;plain 0;batch 1;");
        due("later", y.swap(0), -4);
        due("all HOME", allHome().swap(0), -4);
    }

    private static void promise23BehindSixtyDaysAndByNone() {
        // ONE 1 begins on the second DAY, and has twenty rounds of three DAYS.
        MangleLine x = Check.told("plain 0;" + SIXTY + "batch 1;");
        due("as it is", x.done(), -4);
        due("swap(0)", x.swap(0), 1);
        due("swap(1)", x.swap(1), 60);
        x.alter(1, 1, 21);
        due("swap(0)", x.swap(0), -4);
        due("swap(1)", x.swap(1), -4);
    }

    private static void promise23ChangesNothing() {
        CHECK.onlyAsks("swap(0)", x -> x.swap(0));
        CHECK.onlyAsks("swap(1)", x -> x.swap(1));
    }

    // ---- promise 24: fair

    private static void promise24WhatOutOfBoundsIsBad() {
        for (int what : Check.outside(0, 1)) {
            CHECK.refuses("fair(" + what + ")", -1, x -> x.fair(what));
        }
    }

    private static void promise24TheFirstDayAndTheLast() {
        for (int day = 0; day < 7; day++) {
            MangleLine x = Check.daysTo(Check.told("soak 9;sun 0 0 0 0 0 0 0;"), day);
            x.bring(0, 0);
            due("never as it is", x.done(), -4);
            due("the day of the week", x.fair(0), day);
            due("behind 1", x.fair(1), 1);
        }
        MangleLine x = Check.daysTo(Check.told("soak 9;sun 0 0 0 0 0 0 0;"), 999);
        x.bring(0, 0);
        due("of DAY 999", x.fair(0), 5);
    }

    private static void promise24OfSeveralTheFirst() {
        MangleLine x = Check.told("plain 0;soak 20;");
        due("as it is", x.done(), 5);
        due("days 0 to 3 are alike", x.fair(0), 0);
        due("behind 4", x.fair(1), 4);
        x.days(1);
        x.shine(1, 9);
        x.alter(0, 2, 14);
        due("as it is: 9 and 4 and 4", x.done(), 3);
        due("days 2 and 3 are alike, 1 has it", x.fair(0), 2);
        due("behind 2", x.fair(1), 2);
    }

    private static void promise24NotSoonerIsNone() {
        MangleLine x = Check.told("plain 0;sun 9 9 9 9 9 9 9;soak 20;");
        due("all have it", x.fair(0), -4);
        due("all have it", x.fair(1), -4);
        due("nobody", new MangleLine().fair(0), -4);
        due("nobody", new MangleLine().fair(1), -4);
        due("all HOME", allHome().fair(0), -4);
        MangleLine y = Check.told("plain 0;soak 4;");
        due("not sooner than behind 1", y.fair(0), -4);
        y.set(2, 0);
        due("never by any", y.fair(0), -4);
    }

    /** By a SUN of 9 on day 0 three DAYS of a week whiten by 1 each. */
    private static void promise24BehindSixtyDaysAndByNone() {
        MangleLine x = Check.told("plain 27;blue 1;sun 0 4 0 4 0 0 0;");
        due("as it is", x.done(), -4);
        due("fair(0)", x.fair(0), 0);
        due("fair(1)", x.fair(1), 60);
        x.alter(0, 1, 28);
        due("fair(0)", x.fair(0), -4);
        due("fair(1)", x.fair(1), -4);
    }

    private static void promise24ChangesNothing() {
        CHECK.onlyAsks("fair(0)", x -> x.fair(0));
        CHECK.onlyAsks("fair(1)", x -> x.fair(1));
    }

    // ---- promise 25: stain

    private static void promise25NoSuchOneIsBad() {
        for (int i : Check.outside(0, 5)) {
            CHECK.refuses("stain(" + i + ", 1)", -1, x -> x.stain(i, 1));
        }
        CHECK.leaves("stain(0, 0)", Scene.NEW, -1, x -> x.stain(0, 0));
        CHECK.leaves("stain(4, 0)", Scene.BUSY, -1, x -> x.stain(4, 0));
    }

    private static void promise25OutOfBoundsIsBad() {
        for (int n : Check.outside(0, 60)) {
            CHECK.refuses("stain(0, " + n + ")", -1, x -> x.stain(0, n));
        }
    }

    private static void promise25TheLeastAndTheGreatestGrey() {
        MangleLine x = Check.told("plain 9;blue 0;soak 4;");
        due("0 alone", x.stain(0, 60), 0);
        x.set(2, 0);
        due("by none", x.stain(0, 60), -4);
        MangleLine y = Check.told("plain 0;blue 3;pass 30;soak 4;");
        due("33 by one DAY", y.stain(0, 1), 33);
        due("57 by nine DAYS", y.stain(0, 9), 57);
        due("60 by ten DAYS", y.stain(0, 10), 60);
        due("60 at most", y.stain(0, 11), 60);
    }

    private static void promise25BehindNoDays() {
        CHECK.leaves("stain(0, 0)", Scene.BUSY, 60, x -> x.stain(0, 0));
        CHECK.leaves("stain(1, 0)", Scene.BUSY, -4, x -> x.stain(1, 0));
        CHECK.leaves("stain(3, 0)", Scene.BUSY, -4, x -> x.stain(3, 0));
    }

    private static void promise25BehindSixtyDays() {
        MangleLine x = Check.told("plain 0;" + SIXTY);
        due("stain(1, 60)", x.stain(1, 60), 20);
        due("stain(1, 59)", x.stain(1, 59), 19);
        due("stain(1, 3)", x.stain(1, 3), 1);
        due("stain(1, 2)", x.stain(1, 2), -4);
    }

    private static void promise25ChangesNothing() {
        CHECK.onlyAsks("stain(3, 60)", x -> x.stain(3, 60));
        CHECK.onlyAsks("stain(0, 0)", x -> x.stain(0, 0));
    }

    // ---- promise 26: kind

    private static void promise26NoSuchOneIsBad() {
        for (int i : Check.outside(0, 5)) {
            CHECK.refuses("kind(" + i + ", 0)", -1, x -> x.kind(i, 0));
        }
        CHECK.leaves("kind(0, 0)", Scene.NEW, -1, x -> x.kind(0, 0));
        CHECK.leaves("kind(4, 0)", Scene.BUSY, -1, x -> x.kind(4, 0));
    }

    private static void promise26WhatOutOfBoundsIsBad() {
        for (int what : Check.outside(0, 1)) {
            CHECK.refuses("kind(0, " + what + ")", -1, x -> x.kind(0, what));
        }
    }

    private static void promise26TheFirstKindAndTheLast() {
        MangleLine x = Check.told("creased 3;");
        due("a plain one", x.kind(0, 0), 0);
        due("behind 2", x.kind(0, 1), 2);
        x.alter(0, 1, 0);
        due("a napkin", x.kind(0, 0), 3);
        due("behind 1", x.kind(0, 1), 1);
    }

    private static void promise26OfSeveralTheFirst() {
        MangleLine x = Check.told("napkin 0;soak 4;");
        due("plain, wicked, napkin are alike", x.kind(0, 0), 0);
        MangleLine y = Check.told("creased 0;plain 0;soak 4;");
        y.days(1);
        due("who is HOME may be any", y.kind(1, 0), 0);
        due("behind what ONE 0 needs", y.kind(1, 1), 1);
    }

    private static void promise26AllHome() {
        due("kind(5, 0)", allHome().kind(5, 0), 0);
        due("kind(5, 1)", allHome().kind(5, 1), 0);
    }

    private static void promise26BehindSixtyDaysAndByNone() {
        MangleLine x = Check.told(SIXTY);
        due("kind(0, 0)", x.kind(0, 0), 0);
        due("kind(0, 1)", x.kind(0, 1), 60);
        x.alter(0, 1, 21);
        due("kind(0, 0)", x.kind(0, 0), -4);
        due("kind(0, 1)", x.kind(0, 1), -4);
    }

    private static void promise26ChangesNothing() {
        CHECK.onlyAsks("kind(3, 0)", x -> x.kind(3, 0));
        CHECK.onlyAsks("kind(0, 1)", x -> x.kind(0, 1));
    }
}
