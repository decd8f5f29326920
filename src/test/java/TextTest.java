/** Promises 1 to 9: a new object, the text, and what can be asked of it. */
public final class TextTest {
    private static final Check CHECK = new Check("TextTest");

    public static void main(String[] args) {
        newObject();
        feedAndEnd();
        fullTapes();
        whatIsCutOff();
        linesThatAreTaken();
        aTextTellsAll();
        aRefusedTextChangesNothing();
        tokens();
        misplaced();
        bounds();
        twice();
        tooMany();
        noEighthSun();
        theFirstFaultMet();
        askedOnes();
        wrongNumbers();
        CHECK.end();
    }

    private static void due(String call, long got, long want) {
        CHECK.due(call, got, want);
    }

    /** The text's answer and its fault, on a new object. */
    private static void text(String text, int answer, int fault) {
        MangleLine x = Check.fed(new MangleLine(), text);
        due("text of '" + text + "'", x.text(), answer);
        due("fault of '" + text + "'", x.fault(), fault);
    }

    private static void newObject() {
        MangleLine x = new MangleLine();
        int[] rules = {3, 2, 3, 0, 8};
        for (int w = 0; w < rules.length; w++) {
            due("new told(" + w + ")", x.told(w), rules[w]);
        }
        for (int d = 0; d < 7; d++) {
            due("new sun(" + d + ")", x.sun(d), 4);
        }
        int[] asked = {0, 0, 0, 0, 0, 0, 4};
        for (int w = 0; w < asked.length; w++) {
            due("new rule(" + w + ")", x.rule(w), asked[w]);
        }
        due("new fault()", x.fault(), 0);
        due("new torn()", x.torn(), 0);
        int[] counts = {0, 0, 0, -4, 0, 28};
        for (int w = 0; w < counts.length; w++) {
            due("new count(" + w + ")", x.count(w), counts[w]);
        }
        due("new one(0, 0)", x.one(0, 0), -1);
        for (int k = 0; k < 4; k++) {
            due("new lay(" + k + ")", x.lay(k, 0, 0), -11);
        }
        due("new back(0)", x.back(0), -2);
        due("new back(1)", x.back(1), -2);
        due("new done()", x.done(), 0);
    }

    private static void feedAndEnd() {
        MangleLine x = new MangleLine();
        due("feed(-1)", x.feed(-1), -1);
        due("feed(128)", x.feed(128), -1);
        due("feed(0)", x.feed(0), 1);
        due("feed(127)", x.feed(127), 2);
        due("end(3)", x.end(3), -1);
        due("end(-1)", x.end(-1), -1);
        due("bytes", x.count(2), 2);
        due("end(2)", x.end(2), 2);
        due("end(1)", x.end(1), 2);
        due("end(0)", x.end(0), 1);
        due("end(0) again", x.end(0), 0);
        for (int i = 1; i <= 160; i++) {
            due("feed " + i, x.feed(' '), i);
        }
        due("the 161st", x.feed(' '), -3);
        due("the 161st, no byte", x.feed(128), -1);
        due("still 160", x.count(2), 160);
        due("end(160)", x.end(160), 160);
        due("end(161)", x.end(161), -1);
        due("end(159)", x.end(159), 160);
        due("feed again", x.feed(';'), 160);
        due("a full tape is read whole", x.text(), -10 - 159);
        due("empty then", x.count(2), 0);
    }

    private static void fullTapes() {
        text(" ".repeat(160), 0, 0);
        text(" ".repeat(157) + "sun", -170, 2);
        text(" ".repeat(155) + "sun 1", -170, 2);
        text("plain 1;" + " ".repeat(148) + "sun;", 2, 0);
    }

    private static void whatIsCutOff() {
        MangleLine x = new MangleLine();
        Check.fed(x, "plain 12;");
        x.end(7);
        due("what was cut off is not read: a NUMBER", x.text(), -17);
        Check.fed(x, "sun    ");
        x.end(3);
        due("nor blanks", x.text(), -13);
        Check.fed(x, "plain 1;@@@");
        due("end(8)", x.end(8), 11);
        due("what is kept is told", x.text(), 1);
    }

    private static void linesThatAreTaken() {
        text("", 0, 0);
        text("     ", 0, 0);
        text("plain 0;", 1, 0);
        text("plain60;", 1, 0);
        text("  wicked   60  ;  ", 1, 0);
        text("creased 07;napkin 00;", 2, 0);
        text("blue 0;batch 1;pegs 0;pass 0;soak 1;sun;", 6, 0);
        text("blue 9;batch 6;pegs 6;pass 30;soak 20;sun 9 8 7 6 5 4 3;", 6, 0);
        text("sun 9 09 00;plain 1;sun", -30, 4);
        text("plain 1;plain 2;plain 3;plain 4;plain 5;plain 6;", 6, 0);
    }

    private static void aTextTellsAll() {
        MangleLine x = Check.told("plain 7;wicked 4;blue 5;batch 4;pegs 1;pass 9;soak 6;sun 6 3;");
        x.sheet(0, 1, 5);
        x.read(1, 0, 0, 1);
        x.days(4);
        x.see(0, 0, 0);
        x.keep(1);
        x.runs(3, 0);
        Check.fed(x, "napkin 2;sun 0 0 0 0 0 0 8;");
        due("text()", x.text(), 2);
        due("ONES", x.rule(0), 1);
        due("DAY", x.rule(1), 0);
        due("HEAP", x.rule(2), 1);
        due("GREY", x.rule(5), 2);
        due("KIND", x.one(0, 0), 3);
        due("WET", x.one(0, 2), 0);
        due("BLUE", x.told(0), 3);
        due("BATCH", x.told(1), 2);
        due("PEGS", x.told(2), 3);
        due("PASS", x.told(3), 0);
        due("SOAK", x.told(4), 8);
        due("sun(0)", x.sun(0), 0);
        due("sun(6)", x.sun(6), 8);
        due("SEEN", x.count(0), 0);
        due("IMAGES", x.count(1), 0);
        due("back(1)", x.back(1), -2);
        due("SHEETS stay", x.count(3), 5);
        due("torn stays", x.torn(), 1);
        Check.fed(x, "sun 5;");
        x.text();
        due("only the sun that was told", x.sun(0), 5);
        due("the others have 4", x.sun(6), 4);
        due("nobody", x.rule(0), 0);
    }

    private static void aRefusedTextChangesNothing() {
        MangleLine x = Check.told("plain 7;blue 5;sun 6 3;");
        x.days(1);
        x.see(3, 0, 1);
        x.keep(0);
        Check.fed(x, "wicked 3;blue 1;sun 1;soak 21;");
        due("text()", x.text(), -10 - 27);
        due("fault()", x.fault(), 3);
        due("the tape is empty", x.count(2), 0);
        due("ONES", x.rule(0), 1);
        due("DAY", x.rule(1), 1);
        due("LINE", x.rule(3), 1);
        due("KIND", x.one(0, 0), 0);
        due("BLUE", x.told(0), 5);
        due("sun(0)", x.sun(0), 6);
        due("SEEN", x.count(0), 1);
        due("IMAGES", x.count(1), 1);
        due("an empty text is taken", x.text(), 0);
        due("and has no fault", x.fault(), 0);
        due("nobody then", x.rule(0), 0);
    }

    private static void tokens() {
        text("@", -10, 1);
        text("plain 1;#", -18, 1);
        text("plain 1\t;", -17, 1);
        text("Plain 1;", -10, 1);
        text("plaiN 1;", -10, 2);
        text("plain 100;", -16, 1);
        text("plain 001;", -16, 1);
        text("100", -10, 1);
        text("  1000000000000000000000", -12, 1);
        text("plain -1;", -16, 1);
        text("plain 1,", -17, 1);
        text("`", -10, 1);
        text("{", -10, 1);
        text("/", -10, 1);
        text(":", -10, 1);
        text("plain 1;;", -18, 2);
        text("sun 1 2 345;", -18, 1);
        MangleLine x = new MangleLine();
        x.feed(0);
        due("a byte 0", x.text(), -10);
        due("its fault", x.fault(), 1);
        x.feed(127);
        due("a byte 127", x.text(), -10);
        due("its fault", x.fault(), 1);
    }

    private static void misplaced() {
        text(";", -10, 2);
        text("  ;", -12, 2);
        text("5", -10, 2);
        text("plane 5;", -10, 2);
        text("plainplain 5;", -10, 2);
        text("plai 5;", -10, 2);
        text("suns 5;", -10, 2);
        text("su 5;", -10, 2);
        text("a", -10, 2);
        text("plain", -15, 2);
        text("plain  ", -17, 2);
        text("plain 5", -17, 2);
        text("plain 5  ", -19, 2);
        text("plain ;", -16, 2);
        text("plain plain 5;", -16, 2);
        text("plain 5 6;", -18, 2);
        text("plain 5 plain;", -18, 2);
        String[] words = {"plain", "wicked", "creased", "napkin", "blue", "batch", "pegs", "pass", "soak", "sun"};
        for (String word : words) {
            text(word + " 1;", 1, 0);
            text(word + "s 1;", -10, 2);
            text("a" + word + " 1;", -10, 2);
            for (int c = 0; c < word.length(); c++) {
                text(word.substring(0, c) + "z" + word.substring(c + 1) + " 1;", -10, 2);
            }
        }
        text("blue;", -14, 2);
        text("batch batch;", -16, 2);
        text("pegs 1", -16, 2);
        text("pass 1 soak 2;", -17, 2);
        text("sun", -13, 2);
        text("sun 1 2", -17, 2);
        text("sun blue 1;", -14, 2);
        text("sun 1 2 blue 1;", -18, 2);
        text("sun 1 2 3 4 5 6", -25, 2);
        text("sun 1 2 3 4 5 6 blue 1;", -26, 2);
    }

    private static void bounds() {
        text("plain 61;", -16, 3);
        text("wicked 99;", -17, 3);
        text("creased 61;", -18, 3);
        text("napkin 61", -17, 3);
        text("blue 10;", -15, 3);
        text("batch 0;", -16, 3);
        text("batch 7;", -16, 3);
        text("pegs 7;", -15, 3);
        text("pass 31;", -15, 3);
        text("soak 0;", -15, 3);
        text("soak 21;", -15, 3);
        text("sun 10;", -14, 3);
        text("sun 1 2 3 4 5 6 10;", -26, 3);
    }

    private static void twice() {
        String[] once = {"blue 1;", "batch 1;", "pegs 1;", "pass 1;", "soak 1;", "sun 1;"};
        for (String line : once) {
            text(line + "plain 1;" + line, -10 - line.length() - 8, 4);
        }
        text("sun;sun;", -14, 4);
        text("blue 1;blue", -17, 4);
        text("blue 1;blue 99;", -17, 4);
    }

    private static void tooMany() {
        String six = "plain 1;wicked 1;creased 1;napkin 1;plain 1;plain 1;";
        text(six + "plain 1;", -10 - six.length(), 5);
        text(six + " napkin", -11 - six.length(), 5);
        text(six + "wicked 99;", -10 - six.length(), 5);
        text(six + "blue 1;", 7, 0);
        text("sun 1 1 1 1 1 1 1 1;", -28, 5);
        text("sun 1 1 1 1 1 1 1 10;", -28, 5);
        text("sun 1 1 1 1 1 1 1 100;", -28, 1);
        text("sun 1 1 1 1 1 1 1 @", -28, 1);
        text("sun 1 1 1 1 1 1 1 99", -28, 5);
        text("sun 1 1 1 1 1 1 1 0blue", -28, 5);
        text("sun 1 1 1 1 1 1 1 ;", 1, 0);
    }

    /** Where no NUMBER stands behind seven SUNS there is no 8th SUN. */
    private static void noEighthSun() {
        text("sun 1 1 1 1 1 1 1", -27, 2);
        text("sun 1 1 1 1 1 1 1 ", -28, 2);
        text("sun0 0 0 0 0 0 0", -26, 2);
        text("sun 1 1 1 1 1 1 1 blue 1;", -28, 2);
        text("sun 1 1 1 1 1 1 1blue 1;", -27, 2);
        text("sun 1 1 1 1 1 1 1 x;", -28, 2);
        text("sun 1 1 1 1 1 1 1 sun;", -28, 2);
        text("plain 1;sun 9 9 9 9 9 9 9 plain 1;", -36, 2);
    }

    private static void theFirstFaultMet() {
        text("plain 61 @", -16, 3);
        text("plain 61 61", -16, 3);
        text("plane @", -10, 2);
        text("plain @ 61", -16, 1);
        text("blue 1;blue @", -17, 4);
        text("sun 10 @", -14, 3);
        text("sun 1 1 1 1 1 1 1 1 @", -28, 5);
        text("plain 1;@;plane", -18, 1);
        text("plain 1;plane;@", -18, 2);
    }

    private static void askedOnes() {
        MangleLine x = Check.told("plain 7;wicked 4;creased 9;napkin 1;sun 6 3 9;");
        int[] dries = {6, 6, 3, 12};
        int[] greys = {7, 4, 9, 1};
        for (int i = 0; i < 4; i++) {
            due("KIND of " + i, x.one(i, 0), i);
            due("GREY of " + i, x.one(i, 1), greys[i]);
            due("WET of " + i, x.one(i, 2), 0);
            due("place of " + i, x.one(i, 3), 0);
            due("DRIES of " + i, x.one(i, 5), dries[i]);
        }
        due("HEAP", x.rule(2), 15);
        due("GREY of all", x.rule(5), 21);
        int[] plain = {0, 1, 2, 3, 4, 5, 6, 7, 8, 9};
        int[] wicked = {0, 0, 1, 1, 2, 2, 3, 3, 4, 4};
        int[] napkin = {0, 0, 0, 0, 1, 1, 2, 2, 3, 3};
        for (int blue = 0; blue <= 9; blue++) {
            x.set(0, blue);
            due("plain by BLUE " + blue, x.one(0, 4), plain[blue]);
            due("wicked by BLUE " + blue, x.one(1, 4), wicked[blue]);
            due("creased by BLUE " + blue, x.one(2, 4), plain[blue]);
            due("napkin by BLUE " + blue, x.one(3, 4), napkin[blue]);
        }
        x.days(1);
        due("SUN of the next day", x.rule(6), 3);
        due("creased by a SUN of 3", x.one(2, 5), 1);
        due("napkin by a SUN of 3", x.one(3, 5), 6);
        x.days(6);
        due("a week later", x.rule(1), 7);
        due("SUN a week later", x.rule(6), 6);
    }

    private static void wrongNumbers() {
        MangleLine x = Check.told("plain 7;");
        int[] far = {Integer.MIN_VALUE, Integer.MAX_VALUE};
        for (int w : far) {
            due("feed", x.feed(w), -1);
            due("end", x.end(w), -1);
            due("rule", x.rule(w), -1);
            due("told", x.told(w), -1);
            due("one", x.one(w, 0), -1);
            due("one", x.one(0, w), -1);
            due("sun", x.sun(w), -1);
        }
        due("rule(-1)", x.rule(-1), -1);
        due("rule(7)", x.rule(7), -1);
        due("told(-1)", x.told(-1), -1);
        due("told(5)", x.told(5), -1);
        due("one(-1, 0)", x.one(-1, 0), -1);
        due("one(1, 0)", x.one(1, 0), -1);
        due("one(0, -1)", x.one(0, -1), -1);
        due("one(0, 6)", x.one(0, 6), -1);
        due("sun(-1)", x.sun(-1), -1);
        due("sun(7)", x.sun(7), -1);
    }
}
