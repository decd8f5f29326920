import java.util.ArrayList;
import java.util.List;

/** Objects to which a call is put, and all that can be told of an object, so that a change shows. */
enum Scene {
    /** As it is made. */
    NEW {
        @Override
        MangleLine make() {
            return new MangleLine();
        }
    },
    /** Something of everything, nothing at its limit. */
    BUSY {
        @Override
        MangleLine make() {
            MangleLine x = Check.told("plain 7;wicked 30;creased 40;napkin 9;blue 5;pegs 2;pass 1;soak 11;sun 6 3 9 0 2 8 1;");
            x.days(1);
            x.see(3, 0, 2);
            x.keep(0);
            x.days(7);
            x.forget(0);
            x.see(2, 1, x.ahead(1, 2, 2));
            x.see(20, 3, x.ahead(3, 20, 2));
            Check.laid(x, 0, 0, 1, 20, 2, 30);
            Check.laid(x, 1, 1, 3, 60, 0);
            Check.laid(x, 2, 2);
            x.read(1, 1, 2, 1);
            Check.fed(x, "soak 21;").text();
            return Check.fed(x, "plain 3;sun 7");
        }
    },
    /** Nothing more goes in: ONES, DAYS, SEEN, IMAGES, THE TAPE, the CELLS of a SHEET. */
    FULL {
        @Override
        MangleLine make() {
            MangleLine x = new MangleLine();
            x.set(0, 1);
            Check.daysTo(x, 990);
            for (int i = 0; i < 6; i++) {
                x.bring(i % 4, 10 * i);
            }
            x.keep(1);
            x.days(9);
            for (int s = 0; s < 6; s++) {
                x.see(4 * s, s, x.ahead(s, 4 * s, 2));
            }
            x.keep(0);
            for (int k = 0; k < 4; k++) {
                x.sheet(k, k % 3, 40);
                x.lay(k, 1, 10 + k);
            }
            return Check.fed(x, "napkin 60;sun 9 9 9;" + " ".repeat(132) + "soak 20;");
        }
    };

    private List<String> untouched;

    abstract MangleLine make();

    /** What is told of it where nothing has been put to it. */
    List<String> untouched() {
        if (untouched == null) {
            untouched = tell(make());
        }
        return untouched;
    }

    /**
     * All that can be told of an object, which is spent by it: images, tape and sheets are told by use.
     * A scene and this stay below the 512 calls that an object answers.
     */
    static List<String> tell(MangleLine x) {
        List<String> all = new ArrayList<>();
        for (int w = 0; w < 6; w++) {
            note(all, "count(" + w + ")", x.count(w));
        }
        note(all, "fault()", x.fault());
        note(all, "torn()", x.torn());
        tellLaundry(all, x);
        for (int k = 0; k < 2; k++) {
            note(all, "back(" + k + ")", x.back(k));
            note(all, "count(0)", x.count(0));
            tellLaundry(all, x);
        }
        note(all, "text()", x.text());
        note(all, "fault()", x.fault());
        note(all, "rule(5)", x.rule(5));
        note(all, "count(5)", x.count(5));
        for (int k = 0; k < 4; k++) {
            tellSheet(all, x, k);
        }
        return all;
    }

    private static void note(List<String> all, String call, long answer) {
        all.add(call + " = " + answer);
    }

    private static void tellLaundry(List<String> all, MangleLine x) {
        for (int w = 0; w < 7; w++) {
            note(all, "rule(" + w + ")", x.rule(w));
            note(all, "sun(" + w + ")", x.sun(w));
        }
        for (int w = 0; w < 5; w++) {
            note(all, "told(" + w + ")", x.told(w));
        }
        int ones = x.rule(0);
        for (int i = 0; i < ones; i++) {
            for (int w = 0; w < 3; w++) {
                note(all, "one(" + i + ", " + w + ")", x.one(i, w));
            }
            note(all, "greys(" + i + ")", x.greys(i));
        }
    }

    private static void tellSheet(List<String> all, MangleLine x, int k) {
        // An empty text, so that there is room for who is read.
        note(all, "text()", x.text());
        for (int lane = 0; lane < 3; lane++) {
            note(all, "read(" + k + ", " + lane + ", 0, 2)", x.read(k, lane, 0, 2));
            note(all, "torn()", x.torn());
        }
        note(all, "rule(5)", x.rule(5));
        note(all, "one(0, 0)", x.one(0, 0));
        note(all, "one(1, 0)", x.one(1, 0));
        for (int cell : new int[] {0, 3, 4, 39, 40}) {
            note(all, "lay(" + k + ", " + cell + ", 0)", x.lay(k, cell, 0));
        }
    }
}
