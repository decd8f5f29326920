/** Promises 20 to 26: blue, pegs, batch, swap, fair, stain, kind. */
public final class BestTest {
    private static final Check CHECK = new Check("BestTest");
    private static final String THREE = "plain 7;wicked 4;creased 0;batch 2;pegs 2;blue 5;soak 6;sun 6 3;";

    public static void main(String[] args) {
        blue();
        pegs();
        batch();
        swap();
        fair();
        stain();
        kind();
        nobody();
        nothingIsChanged();
        CHECK.end();
    }

    private static void due(String call, long got, long want) {
        CHECK.due(call, got, want);
    }

    private static void blue() {
        // A round is two DAYS by SOAK 8 and a SUN of 4; k rounds bring GREY 18 to 0 by BLUE 18 by k, up.
        MangleLine x = Check.told("plain 18;");
        int[] wants = {-4, -4, -4, -4, 9, 9, 6, 6, 5, 5, 4, 4, 3};
        for (int n = 0; n < wants.length; n++) {
            due("blue(" + n + ")", x.blue(n), wants[n]);
        }
        due("blue(35)", x.blue(35), 2);
        due("blue(36)", x.blue(36), 1);
        due("blue(60)", x.blue(60), 1);
        due("blue(61)", x.blue(61), -1);
        due("blue(-1)", x.blue(-1), -1);
        x.set(3, 18);
        due("without blue", x.blue(2), 0);
        due("not so soon", x.blue(1), -4);
    }

    private static void pegs() {
        MangleLine x = Check.told("plain 0;plain 0;plain 0;batch 6;");
        int[] wants = {-4, -4, 3, 3, 2, 2, 1, 1};
        for (int n = 0; n < wants.length; n++) {
            due("pegs(" + n + ")", x.pegs(n), wants[n]);
        }
        due("pegs(60)", x.pegs(60), 1);
        due("pegs(61)", x.pegs(61), -1);
        due("pegs(-1)", x.pegs(-1), -1);
        x.days(1);
        due("who is on the LINE stays there", x.pegs(1), 0);
    }

    private static void batch() {
        // Three dry by two DAYS each: one a day needs 4 DAYS, two a day 3, three or more 2.
        MangleLine x = Check.told("plain 0;plain 0;plain 0;pegs 6;");
        due("batch(0)", x.batch(0), 3);
        due("batch(1)", x.batch(1), 2);
        x.set(2, 1);
        due("by one peg all are alike: the least", x.batch(0), 1);
        due("by one peg", x.batch(1), 6);
        x.set(2, 0);
        due("by no peg", x.batch(0), -4);
        due("by no peg", x.batch(1), -4);
        MangleLine six = Check.told("plain 0;plain 0;plain 0;plain 0;plain 0;plain 0;pegs 6;");
        due("six at once", six.batch(0), 6);
        due("behind two", six.batch(1), 2);
        due("batch(2)", x.batch(2), -1);
        due("batch(-1)", x.batch(-1), -1);
        x.set(2, 6);
        x.days(30);
        due("in the HEAP all along without pegs, HOME now", x.done(), 0);
        due("all HOME", x.batch(0), 1);
        due("all HOME", x.batch(1), 0);
    }

    private static void swap() {
        // One boiled a day: the grey one had better go first.
        MangleLine x = Check.told("plain 0;plain 6;batch 1;");
        due("as it is", x.done(), 5);
        due("swap(0)", x.swap(0), 1);
        due("swap(1)", x.swap(1), 4);
        MangleLine y = Check.told("plain 6;plain 0;batch 1;");
        due("as it is already", y.done(), 4);
        due("none is sooner", y.swap(0), -4);
        due("none is sooner", y.swap(1), -4);
        // The last is boiled twice: it may change places with any other.
        MangleLine z = Check.told("plain 0;plain 0;plain 3;plain 6;batch 1;");
        due("as it is", z.done(), 7);
        due("the least of several", z.swap(0), 3);
        due("behind 6", z.swap(1), 6);
        due("swap(2)", x.swap(2), -1);
        due("swap(-1)", x.swap(-1), -1);
        // Two at once: ONE 0 and 2 need two rounds each, and had better go together.
        MangleLine u = Check.told("plain 6;plain 0;plain 6;");
        due("as it is", u.done(), 5);
        due("neither is ONE 0", u.swap(0), 12);
        due("behind 4", u.swap(1), 4);
        // KINDS go along: a creased one takes four DAYS to dry.
        MangleLine t = Check.told("plain 0;creased 0;batch 1;");
        due("as it is", t.done(), 5);
        due("the creased one first", t.swap(0), 1);
        due("behind 4", t.swap(1), 4);
        // Places go along: ONE 0 is HOME, and so is who comes from its place.
        MangleLine v = Check.told("plain 0;batch 1;");
        v.days(2);
        v.bring(0, 0);
        v.bring(0, 6);
        due("as it is", v.done(), 5);
        due("ONE 2 to the place of who is HOME", v.swap(0), 2);
        due("behind 4", v.swap(1), 4);
        // WET goes along: ONE 1 on the LINE has five DAYS to dry, wherever it stands.
        MangleLine w = Check.told("plain 0;plain 0;");
        w.days(1);
        w.fetch(0);
        w.alter(0, 2, 0);
        w.alter(1, 2, 20);
        due("as it is", w.done(), 5);
        due("no swap dries it", w.swap(0), -4);
        MangleLine never = Check.told("plain 30;plain 0;blue 0;pegs 1;batch 1;pass 0;");
        due("never", never.done(), -4);
        due("nor by a swap", never.swap(0), -4);
    }

    private static void fair() {
        MangleLine x = Check.told("plain 0;soak 20;");
        due("as it is", x.done(), 5);
        due("fair(0)", x.fair(0), 0);
        due("fair(1)", x.fair(1), 4);
        x.set(4, 8);
        due("by two DAYS as it is", x.done(), 2);
        due("the first DAY alone", x.fair(0), 0);
        due("behind one", x.fair(1), 1);
        x.days(1);
        due("on the second day", x.done(), 1);
        due("none sooner", x.fair(0), -4);
        due("none sooner", x.fair(1), -4);
        MangleLine y = Check.told("plain 0;soak 20;sun 4 9 0 0 0 0 0;");
        due("as it is", y.done(), 9);
        due("a SUN of 9 on day 2", y.fair(0), 2);
        due("behind 3 DAYS", y.fair(1), 3);
        MangleLine z = Check.told("plain 0;sun 0 0 0 0 0 0 0;");
        due("never", z.done(), -4);
        due("sooner than never", z.fair(0), 0);
        due("on DAY 0", z.fair(1), 1);
        z.days(3);
        due("the day of the week, not the DAY", z.fair(0), 3);
        due("fair(2)", x.fair(2), -1);
        due("fair(-1)", x.fair(-1), -1);
    }

    private static void stain() {
        MangleLine x = Check.told("plain 7;plain 50;pass 2;batch 6;");
        int[] wants = {-4, -4, 5, 5, 8, 8, 11};
        for (int n = 0; n < wants.length; n++) {
            due("stain(0, " + n + ")", x.stain(0, n), wants[n]);
        }
        MangleLine y = Check.told("plain 9;blue 0;");
        due("none but 0", y.stain(0, 2), 0);
        due("stain(0, 60)", x.stain(0, 60), 60);
        due("stain(0, 61)", x.stain(0, 61), -1);
        due("stain(0, -1)", x.stain(0, -1), -1);
        due("stain(2, 1)", x.stain(2, 1), -1);
        due("stain(-1, 1)", x.stain(-1, 1), -1);
        x.days(6);
        due("HOME", x.rule(4), 1);
        due("who is HOME may be as grey as it likes", x.stain(0, 0), 60);
        due("the other not", x.stain(1, 0), -4);
        x.set(2, 0);
        due("without pegs", x.stain(1, 60), -4);
    }

    private static void kind() {
        MangleLine x = Check.told(THREE);
        due("kind(1, 0)", x.kind(1, 0), 0);
        due("kind(1, 1)", x.kind(1, 1), 5);
        MangleLine y = Check.told("plain 0;soak 8;");
        due("a napkin dries soonest", y.kind(0, 0), 3);
        due("behind one DAY", y.kind(0, 1), 1);
        MangleLine z = Check.told("creased 3;soak 8;");
        due("a plain one", z.kind(0, 0), 0);
        due("behind two DAYS", z.kind(0, 1), 2);
        z.set(2, 0);
        due("by no peg", z.kind(0, 0), -4);
        due("by no peg", z.kind(0, 1), -4);
        due("kind(1, 0)", z.kind(1, 0), -1);
        due("kind(-1, 0)", z.kind(-1, 0), -1);
        due("kind(0, 2)", z.kind(0, 2), -1);
        due("kind(0, -1)", z.kind(0, -1), -1);
    }

    private static void nobody() {
        MangleLine x = new MangleLine();
        due("blue(0)", x.blue(0), 0);
        due("pegs(60)", x.pegs(60), 0);
        due("batch(0)", x.batch(0), 1);
        due("batch(1)", x.batch(1), 0);
        due("swap(0)", x.swap(0), -4);
        due("fair(0)", x.fair(0), -4);
        due("stain(0, 0)", x.stain(0, 0), -1);
        due("kind(0, 0)", x.kind(0, 0), -1);
    }

    private static void nothingIsChanged() {
        MangleLine x = Check.told(THREE);
        x.blue(9);
        x.pegs(9);
        x.batch(0);
        x.swap(0);
        x.fair(0);
        x.stain(1, 9);
        x.kind(1, 0);
        due("BLUE", x.told(0), 5);
        due("BATCH", x.told(1), 2);
        due("PEGS", x.told(2), 2);
        due("sun", x.count(5), 29);
        due("KIND", x.one(1, 0), 1);
        due("GREY", x.rule(5), 11);
        due("DAY", x.rule(1), 0);
        due("order", x.one(0, 1), 7);
    }
}
