/** Promises 29 to 33: see, forget, kinds, greys, ask. */
public final class SeenTest {
    private static final Check CHECK = new Check("SeenTest");

    public static void main(String[] args) {
        see();
        forget();
        kinds();
        greys();
        othersToo();
        fromNowOn();
        ask();
        askOfAnother();
        askOfTheLastDay();
        nothingIsChanged();
        CHECK.end();
    }

    private static void due(String call, long got, long want) {
        CHECK.due(call, got, want);
    }

    private static void see() {
        MangleLine x = Check.told("plain 0;");
        due("n -1", x.see(-1, 0, 0), -1);
        due("n 21", x.see(21, 0, 0), -1);
        due("no ONE", x.see(0, 1, 0), -1);
        due("no ONE", x.see(0, -1, 0), -1);
        due("w -1", x.see(0, 0, -1), -1);
        due("w 3", x.see(0, 0, 3), -1);
        due("none", x.count(0), 0);
        for (int k = 1; k <= 6; k++) {
            due("see " + k, x.see(k == 1 ? 0 : 20, 0, k % 3), k);
        }
        due("the 7th", x.see(0, 0, 0), -3);
        due("the 7th, wrong", x.see(21, 0, 0), -1);
        due("six", x.count(0), 6);
        due("at odds among themselves", x.kinds(0) + x.greys(0), 0);
        due("nobody", new MangleLine().see(0, 0, 0), -1);
    }

    private static void forget() {
        MangleLine x = Check.told("plain 0;");
        due("forget(0)", x.forget(0), 0);
        due("forget(1)", x.forget(1), -1);
        x.see(1, 0, 1);
        x.see(2, 0, 0);
        x.see(3, 0, 2);
        due("forget(-1)", x.forget(-1), -1);
        due("forget(4)", x.forget(4), -1);
        due("forget(3)", x.forget(3), 3);
        due("at odds", x.kinds(0) & 1, 0);
        due("forget(1)", x.forget(1), 3);
        due("one", x.count(0), 1);
        due("the first is left", x.kinds(0), 7);
        due("see again", x.see(1, 0, 2), 2);
        due("forget(0)", x.forget(0), 2);
        due("none", x.count(0), 0);
    }

    /** By SOAK 8, a SUN of 4: a plain and a wicked one dry by 2 DAYS, a creased one by 4, a napkin by 1. */
    private static void kinds() {
        MangleLine x = Check.told("plain 0;");
        due("nothing SEEN", x.kinds(0), 15);
        x.see(1, 0, 2);
        due("HOME behind 1", x.kinds(0), 8);
        x.forget(0);
        x.see(2, 0, 2);
        due("HOME behind 2", x.kinds(0), 11);
        x.see(1, 0, 1);
        due("and not behind 1", x.kinds(0), 3);
        x.forget(0);
        x.see(3, 0, 1);
        due("on the LINE behind 3", x.kinds(0), 4);
        x.see(0, 0, 2);
        due("HOME now: none", x.kinds(0), 0);
        x.forget(0);
        x.see(20, 0, 2);
        due("HOME behind 20", x.kinds(0), 15);
        x.alter(0, 0, 2);
        due("of whichever it is", x.kinds(0), 15);
        due("no ONE", x.kinds(1), -1);
        due("no ONE", x.kinds(-1), -1);
    }

    private static void greys() {
        MangleLine x = Check.told("plain 7;");
        due("nothing SEEN", x.greys(0), Integer.MAX_VALUE);
        x.see(2, 0, 2);
        due("HOME behind 2: 3 at most", x.greys(0), 15);
        x.forget(0);
        x.see(4, 0, 2);
        due("HOME behind 4: 6 at most", x.greys(0), 127);
        x.see(2, 0, 0);
        due("but not behind 2: 4 to 6", x.greys(0), 112);
        x.see(0, 0, 1);
        due("at odds", x.greys(0), 0);
        x.forget(0);
        x.see(20, 0, 2);
        due("30 at most", x.greys(0), Integer.MAX_VALUE);
        x.set(0, 0);
        x.forget(0);
        x.see(2, 0, 0);
        due("30 is among them", x.greys(0), Integer.MAX_VALUE - 1);
        due("no ONE", x.greys(1), -1);
        due("no ONE", x.greys(-1), -1);
    }

    /** What was SEEN of one tells of another: by one peg ONE 1 waits for ONE 0. */
    private static void othersToo() {
        MangleLine x = Check.told("plain 7;plain 0;pegs 1;");
        x.see(3, 1, 1);
        due("ONE 0 left the only peg to ONE 1", x.greys(0), 15);
        due("what ONE 1 is does not matter so", x.greys(1), 0);
        x.alter(0, 1, 2);
        due("but then", x.greys(1), Integer.MAX_VALUE);
    }

    private static void fromNowOn() {
        MangleLine x = Check.told("plain 0;");
        x.see(2, 0, 2);
        due("now", x.kinds(0), 11);
        x.days(1);
        due("SEEN stays", x.count(0), 1);
        due("counted from now on: WET 4, a creased one dries by 2", x.kinds(0), 15);
        x.forget(0);
        x.see(1, 0, 2);
        due("behind one DAY more", x.kinds(0), 11);
    }

    private static void ask() {
        // HOME behind 2k DAYS: GREY up to 3k. The best look parts 0 to 30 into 15 and 16.
        MangleLine x = Check.told("plain 7;");
        due("ask(0, 0)", x.ask(0, 0), 100);
        due("ask(0, 1)", x.ask(0, 1), 16);
        x.see(10, 0, 2);
        due("0 to 15 are left", Integer.bitCount(x.greys(0)), 16);
        due("ask(0, 0)", x.ask(0, 0), 40);
        due("ask(0, 1)", x.ask(0, 1), 9);
        x.see(0, 0, 1);
        due("none is left", x.greys(0), 0);
        due("ask then", x.ask(0, 0), -4);
        due("ask then", x.ask(0, 1), -4);
        x.forget(0);
        x.see(2, 0, 2);
        due("0 to 3 are all alike", x.ask(0, 0), -4);
        due("no ONE", x.ask(1, 0), -1);
        due("no ONE", x.ask(-1, 0), -1);
        due("what 2", x.ask(0, 2), -1);
        due("what -1", x.ask(0, -1), -1);
    }

    private static void askOfAnother() {
        MangleLine x = Check.told("plain 7;napkin 0;pegs 6;batch 1;");
        due("the least of who tells the same", x.ask(0, 0), 100);
        MangleLine y = Check.told("plain 0;plain 9;pegs 1;batch 1;pass 30;soak 8;sun 4 4 4 4 4 4 4;");
        due("PASS 30: no look tells", y.ask(1, 0), -4);
        y.set(3, 0);
        // Boiled once without a peg, then as above two DAYS late: HOME behind 2k DAYS by GREY up to 3k.
        due("who is told too", y.ask(1, 0), 101);
        due("left at the worst", y.ask(1, 1), 16);
    }

    /** A SUN of 1 and SOAK 20: not a DAY ahead of the 20th tells. */
    private static void askOfTheLastDay() {
        MangleLine x = Check.told("plain 7;blue 9;soak 20;sun 1 1 1 1 1 1 1;");
        due("behind 20", x.ask(0, 0), 200);
        due("10 to 30 at the worst", x.ask(0, 1), 21);
        x.set(0, 0);
        x.shine(0, 0);
        due("none behind 21", x.ask(0, 0), -4);
        MangleLine y = Check.told("plain 0;plain 0;plain 0;plain 0;plain 0;plain 0;batch 6;pegs 6;");
        due("of six, the last", y.ask(5, 0), 105);
    }

    private static void nothingIsChanged() {
        MangleLine x = Check.told("plain 7;wicked 3;");
        x.see(3, 0, 1);
        x.kinds(0);
        x.greys(1);
        x.ask(0, 0);
        due("KIND", x.one(0, 0), 0);
        due("GREY", x.rule(5), 10);
        due("DAY", x.rule(1), 0);
        due("SEEN", x.count(0), 1);
    }
}
