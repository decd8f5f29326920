/** The edges of promises 29 to 33, a test for each sentence that names one. */
public final class EdgeSeenTest {
    private static final Check CHECK = new Check("EdgeSeenTest");
    private static final int ALL_GREYS = Integer.MAX_VALUE;

    public static void main(String[] args) {
        CHECK.runPromises(EdgeSeenTest.class, 29, 33);
        CHECK.end();
    }

    private static void due(String call, long got, long want) {
        CHECK.due(call, got, want);
    }

    // ---- promise 29: see

    private static void promise29OutOfBoundsIsBadAlsoWhereItIsFull() {
        for (int n : Check.outside(0, 20)) {
            CHECK.refuses("see(" + n + ", 0, 0)", -1, x -> x.see(n, 0, 0));
        }
        for (int w : Check.outside(0, 2)) {
            CHECK.refuses("see(0, 0, " + w + ")", -1, x -> x.see(0, 0, w));
        }
    }

    private static void promise29NoSuchOneIsBadAlsoWhereItIsFull() {
        for (int i : Check.outside(0, 5)) {
            CHECK.refuses("see(0, " + i + ", 0)", -1, x -> x.see(0, i, 0));
        }
        CHECK.leaves("see(0, 0, 0)", Scene.NEW, -1, x -> x.see(0, 0, 0));
        CHECK.leaves("see(0, 4, 0)", Scene.BUSY, -1, x -> x.see(0, 4, 0));
    }

    private static void promise29TheLeastAndTheGreatest() {
        MangleLine x = Scene.BUSY.make();
        due("see(0, 0, 0)", x.see(0, 0, 0), 3);
        due("see(20, 3, 2)", x.see(20, 3, 2), 4);
        due("SEEN", x.count(0), 4);
    }

    private static void promise29OfTheLastOne() {
        MangleLine x = Check.told("plain 0;plain 0;plain 0;plain 0;plain 0;plain 0;batch 6;pegs 6;");
        x.see(1, 5, 2);
        due("ONE 5 is a napkin", x.kinds(5), 8);
        due("no KIND of ONE 4 tells", x.kinds(4), 0);
        x.alter(5, 0, 3);
        due("any KIND of ONE 4 does then", x.kinds(4), 15);
    }

    private static void promise29TheSixthIsTakenTheSeventhIsNot() {
        MangleLine x = Check.told("plain 0;");
        for (int s = 1; s <= 6; s++) {
            due("the " + s + "th", x.see(2, 0, 2), s);
        }
        due("the 7th", x.see(2, 0, 2), -3);
        due("SEEN", x.count(0), 6);
        due("the 7th does not count", x.see(0, 0, 1), -3);
        due("KINDS by the six", x.kinds(0), 11);
        CHECK.leaves("see(0, 0, 0)", Scene.FULL, -3, y -> y.see(0, 0, 0));
        CHECK.leaves("see(20, 5, 2)", Scene.FULL, -3, y -> y.see(20, 5, 2));
    }

    private static void promise29TheSixthCounts() {
        MangleLine x = Check.told("plain 0;");
        for (int s = 1; s <= 5; s++) {
            x.see(2, 0, 2);
        }
        due("KINDS by five", x.kinds(0), 11);
        x.see(1, 0, 2);
        due("KINDS by six", x.kinds(0), 8);
    }

    private static void promise29AFullRowHasRoomAgain() {
        MangleLine x = Scene.FULL.make();
        x.forget(5);
        due("behind forget(5)", x.see(0, 0, 0), 6);
        due("full again", x.see(0, 0, 0), -3);
        x.back(1);
        due("behind back(1)", x.see(0, 0, 0), 1);
    }

    // ---- promise 30: forget

    private static void promise30NothingIsSeen() {
        CHECK.leaves("forget(0)", Scene.NEW, 0, x -> x.forget(0));
        for (int n : Check.outside(0, 0)) {
            CHECK.leaves("forget(" + n + ")", Scene.NEW, -1, x -> x.forget(n));
        }
    }

    private static void promise30MoreThanThereAreIsBad() {
        for (int n : Check.outside(0, 2)) {
            CHECK.leaves("forget(" + n + ")", Scene.BUSY, -1, x -> x.forget(n));
        }
        for (int n : Check.outside(0, 6)) {
            CHECK.leaves("forget(" + n + ")", Scene.FULL, -1, x -> x.forget(n));
        }
    }

    private static void promise30AllAndNoneAreLeft() {
        CHECK.leaves("forget(2)", Scene.BUSY, 2, x -> x.forget(2));
        CHECK.leaves("forget(6)", Scene.FULL, 6, x -> x.forget(6));
        MangleLine x = Scene.FULL.make();
        due("forget(0)", x.forget(0), 6);
        due("SEEN", x.count(0), 0);
        due("again", x.forget(0), 0);
        due("any KIND", x.kinds(5), 15);
    }

    private static void promise30TheFirstAreLeft() {
        MangleLine x = Check.told("plain 0;");
        x.see(2, 0, 2);
        x.see(1, 0, 1);
        due("by both", x.kinds(0), 3);
        due("forget(1)", x.forget(1), 2);
        due("by the first", x.kinds(0), 11);
        x.forget(0);
        x.see(1, 0, 1);
        due("what is forgotten is not there again", x.kinds(0), 7);
    }

    // ---- promise 31: kinds

    private static void promise31NoSuchOneIsBad() {
        for (int i : Check.outside(0, 5)) {
            CHECK.refuses("kinds(" + i + ")", -1, x -> x.kinds(i));
        }
        CHECK.leaves("kinds(0)", Scene.NEW, -1, x -> x.kinds(0));
        CHECK.leaves("kinds(4)", Scene.BUSY, -1, x -> x.kinds(4));
    }

    private static void promise31NothingIsSeenSoAnyKind() {
        MangleLine x = Scene.BUSY.make();
        x.forget(0);
        for (int i = 0; i < 4; i++) {
            due("kinds(" + i + ")", x.kinds(i), 15);
        }
    }

    /** Dry by 2 DAYS a plain and a wicked one, by 4 a creased one, by 1 a napkin. */
    private static void promise31TheFirstKindAndTheLastAndNone() {
        MangleLine x = Check.told("creased 0;");
        x.see(1, 0, 2);
        due("a napkin alone", x.kinds(0), 8);
        x.see(1, 0, 1);
        due("none", x.kinds(0), 0);
        x.forget(0);
        x.alter(0, 1, 3);
        x.see(2, 0, 2);
        due("a plain one alone is clean by 2", x.kinds(0), 1);
    }

    private static void promise31SeenBehindNoDaysAndBehindTwenty() {
        MangleLine x = Check.told("plain 0;soak 20;sun 1 1 1 1 1 1 1;");
        x.see(0, 0, 0);
        due("in the HEAP now", x.kinds(0), 15);
        x.see(20, 0, 2);
        due("HOME behind 20: all but a creased one", x.kinds(0), 11);
        x.see(19, 0, 1);
        due("not behind 19: but a napkin", x.kinds(0), 3);
        x.forget(0);
        x.see(20, 0, 1);
        due("on the LINE behind 20", x.kinds(0), 4);
        x.forget(0);
        x.see(0, 0, 1);
        due("on the LINE now", x.kinds(0), 0);
    }

    private static void promise31TheWeekTurnsOver() {
        // A creased one dries by 4 on day 0 of a week, a plain one by 9.
        MangleLine x = Check.told("plain 0;soak 8;sun 9 0 0 0 0 0 0;");
        x.see(7, 0, 1);
        due("on the LINE behind seven DAYS", x.kinds(0), 4);
        x.see(8, 0, 2);
        due("HOME behind eight", x.kinds(0), 4);
    }

    private static void promise31ChangesNothing() {
        CHECK.onlyAsks("kinds(0)", x -> x.kinds(0));
        CHECK.onlyAsks("kinds(3)", x -> x.kinds(3));
        CHECK.onlyAsks("kinds(5)", x -> x.kinds(5));
    }

    // ---- promise 32: greys

    private static void promise32NoSuchOneIsBad() {
        for (int i : Check.outside(0, 5)) {
            CHECK.refuses("greys(" + i + ")", -1, x -> x.greys(i));
        }
        CHECK.leaves("greys(0)", Scene.NEW, -1, x -> x.greys(0));
        CHECK.leaves("greys(4)", Scene.BUSY, -1, x -> x.greys(4));
    }

    private static void promise32NothingIsSeenSoAnyGrey() {
        MangleLine x = Scene.FULL.make();
        x.forget(0);
        for (int i = 0; i < 6; i++) {
            due("greys(" + i + ")", x.greys(i), ALL_GREYS);
        }
    }

    private static void promise32TheLeastGreyAndTheGreatestAndNone() {
        MangleLine x = Check.told("plain 7;blue 0;soak 4;");
        x.see(1, 0, 2);
        due("0 alone", x.greys(0), 1);
        x.set(3, 30);
        due("up to 30 by PASS 30", x.greys(0), ALL_GREYS);
        x.set(3, 29);
        due("up to 29 by PASS 29", x.greys(0), ALL_GREYS - (1 << 30));
        x.forget(0);
        x.see(1, 0, 0);
        due("30 alone is above PASS 29", x.greys(0), 1 << 30);
        x.see(1, 0, 2);
        due("none", x.greys(0), 0);
    }

    private static void promise32WhateverItsGreyIsNow() {
        MangleLine x = Check.told("plain 60;");
        x.see(2, 0, 2);
        due("0 to 3", x.greys(0), 15);
        due("GREY", x.one(0, 1), 60);
    }

    private static void promise32SeenBehindNoDaysAndBehindTwenty() {
        MangleLine x = Check.told("plain 7;blue 9;soak 20;sun 1 1 1 1 1 1 1;");
        x.see(20, 0, 2);
        due("HOME behind 20", x.greys(0), (1 << 10) - 1);
        x.forget(0);
        x.see(20, 0, 0);
        due("in the HEAP behind 20", x.greys(0), ALL_GREYS - ((1 << 10) - 1));
        x.forget(0);
        x.see(0, 0, 0);
        due("in the HEAP now", x.greys(0), ALL_GREYS);
        x.forget(0);
        x.see(0, 0, 2);
        due("HOME now", x.greys(0), 0);
    }

    private static void promise32ChangesNothing() {
        CHECK.onlyAsks("greys(0)", x -> x.greys(0));
        CHECK.onlyAsks("greys(3)", x -> x.greys(3));
        CHECK.onlyAsks("greys(5)", x -> x.greys(5));
    }

    // ---- promise 33: ask

    private static void promise33NoSuchOneIsBad() {
        for (int i : Check.outside(0, 5)) {
            CHECK.refuses("ask(" + i + ", 0)", -1, x -> x.ask(i, 0));
        }
        CHECK.leaves("ask(0, 0)", Scene.NEW, -1, x -> x.ask(0, 0));
        CHECK.leaves("ask(4, 0)", Scene.BUSY, -1, x -> x.ask(4, 0));
    }

    private static void promise33WhatOutOfBoundsIsBad() {
        for (int what : Check.outside(0, 1)) {
            CHECK.refuses("ask(0, " + what + ")", -1, x -> x.ask(0, what));
        }
    }

    private static void promise33BehindOneDayAndBehindTwenty() {
        // BLUE 0: behind one DAY who is clean is HOME, and no look parts the others ever.
        MangleLine x = Check.told("plain 7;blue 0;soak 4;");
        due("behind 1", x.ask(0, 0), 10);
        due("30 are left at the worst", x.ask(0, 1), 30);
        MangleLine y = Check.told("plain 7;blue 9;soak 20;sun 1 1 1 1 1 1 1;");
        due("behind 20", y.ask(0, 0), 200);
        due("21 are left at the worst", y.ask(0, 1), 21);
        y.shine(0, 0);
        due("not behind 20", y.ask(0, 0), -4);
        due("not behind 20", y.ask(0, 1), -4);
    }

    private static void promise33TheFirstOneAndTheLast() {
        String five = "plain 0;plain 0;plain 0;plain 0;plain 0;";
        String rules = "blue 9;batch 6;pegs 6;soak 20;sun 1 1 1 1 1 1 1;";
        due("ONE 5", Check.told(five + "plain 7;" + rules).ask(5, 0), 205);
        due("ONE 0", Check.told("plain 7;" + five + rules).ask(0, 0), 200);
    }

    private static void promise33OfSeveralTheLeast() {
        // By one PEG the others tell of ONE 0 too, but later.
        MangleLine x = Check.told("plain 7;plain 0;blue 0;pegs 1;soak 4;");
        due("of who tells the same, the first and its first DAY", x.ask(0, 0), 10);
        // Behind 10 and 11 DAYS HOME is who has GREY up to 15.
        MangleLine y = Check.told("plain 7;");
        due("of the DAYS that tell the same, the first", y.ask(0, 0), 100);
        due("16 are left at the worst", y.ask(0, 1), 16);
    }

    private static void promise33NotFewerIsNone() {
        MangleLine x = Check.told("plain 7;pass 30;");
        due("all are alike", x.ask(0, 0), -4);
        due("all are alike", x.ask(0, 1), -4);
        MangleLine y = Check.told("plain 7;");
        y.see(0, 0, 2);
        due("none is left", y.ask(0, 0), -4);
        due("none is left", y.ask(0, 1), -4);
        MangleLine z = Check.told("plain 7;blue 0;soak 4;");
        z.see(1, 0, 2);
        due("one is left", z.greys(0), 1);
        due("one alone", z.ask(0, 0), -4);
    }

    private static void promise33OfTwoOneIsLeft() {
        MangleLine x = Check.told("plain 7;blue 0;pass 1;soak 4;sun 4 5 4 4 4 4 4;");
        x.see(1, 0, 0);
        x.see(2, 0, 2);
        due("GREY 2 alone", x.greys(0), 4);
        x.forget(1);
        due("2 to 30", x.greys(0), ALL_GREYS - 3);
        x.see(9, 0, 2);
        due("2 and 3", x.greys(0), 12);
        due("behind 2", x.ask(0, 0), 20);
        due("one is left", x.ask(0, 1), 1);
    }

    private static void promise33AskedWhereSeenIsFull() {
        MangleLine x = Check.told("plain 7;");
        for (int s = 0; s < 6; s++) {
            x.see(10, 0, 2);
        }
        due("0 to 15 are left", x.greys(0), (1 << 16) - 1);
        due("ask(0, 0)", x.ask(0, 0), 40);
        due("ask(0, 1)", x.ask(0, 1), 9);
    }

    private static void promise33ChangesNothing() {
        CHECK.onlyAsks("ask(0, 0)", x -> x.ask(0, 0));
        CHECK.onlyAsks("ask(3, 1)", x -> x.ask(3, 1));
        CHECK.onlyAsks("ask(5, 0)", x -> x.ask(5, 0));
    }
}
