import java.util.List;

/** The edges of promises 1 to 9, a test for each sentence that names one. */
public final class EdgeTextTest {
    private static final Check CHECK = new Check("EdgeTextTest");
    private static final String[] KINDS = {"plain", "wicked", "creased", "napkin"};
    private static final String[] RULES = {"blue", "batch", "pegs", "pass", "soak"};
    private static final int[] LEAST = {0, 1, 0, 0, 1};
    private static final int[] MOST = {9, 6, 6, 30, 20};
    private static final int[] AT_FIRST = {3, 2, 3, 0, 8};
    private static final String SIX = "plain 1;wicked 1;creased 1;napkin 1;plain 1;plain 1;";

    public static void main(String[] args) {
        CHECK.runPromises(EdgeTextTest.class, 1, 9);
        CHECK.end();
    }

    private static void due(String call, long got, long want) {
        CHECK.due(call, got, want);
    }

    /** A text that is taken, by its lines. */
    private static void taken(String text, int lines) {
        MangleLine x = Check.fed(new MangleLine(), text);
        due("text of '" + text + "'", x.text(), lines);
        due("fault of '" + text + "'", x.fault(), 0);
    }

    /** A text that is refused, by its FAULT and the place of it. */
    private static void faulty(String text, int fault, int place) {
        MangleLine x = Check.fed(new MangleLine(), text);
        due("text of '" + text + "'", x.text(), -10 - place);
        due("fault of '" + text + "'", x.fault(), fault);
    }

    // ---- promise 1: nobody; SHEETS of nothing

    private static void promise1NobodyIsThere() {
        MangleLine x = new MangleLine();
        for (int w = 0; w <= 5; w++) {
            due("rule(" + w + ")", x.rule(w), 0);
        }
        due("one(0, 0)", x.one(0, 0), -1);
        due("alter(0, 0, 0)", x.alter(0, 0, 0), -1);
        due("fetch(0)", x.fetch(0), -1);
        due("ahead(0, 0, 0)", x.ahead(0, 0, 0), -1);
        due("home(0)", x.home(0), -1);
        due("see(0, 0, 0)", x.see(0, 0, 0), -1);
        due("drift(0, 1, 0)", x.drift(0, 1, 0), -2);
        due("done()", x.done(), 0);
        due("WET of all", x.count(4), 0);
    }

    private static void promise1SheetsAreOfNothing() {
        MangleLine x = new MangleLine();
        due("CELLS of SHEET 0", x.count(3), -4);
        for (int k = 0; k < 4; k++) {
            due("lay(" + k + ", 0, 0)", x.lay(k, 0, 0), -11);
            due("read(" + k + ", 0, 0, 1)", x.read(k, 0, 0, 1), 0);
            due("torn()", x.torn(), 1);
        }
    }

    private static void promise1NumbersAreAsAtFirst() {
        MangleLine x = new MangleLine();
        for (int w = 0; w < 5; w++) {
            due("told(" + w + ")", x.told(w), AT_FIRST[w]);
        }
        for (int d = 0; d < 7; d++) {
            due("sun(" + d + ")", x.sun(d), 4);
        }
        due("DAY", x.rule(1), 0);
        due("SUN of DAY 0", x.rule(6), 4);
    }

    private static void promise1NothingIsSeenKeptOrOnTheTape() {
        MangleLine x = new MangleLine();
        due("SEEN", x.count(0), 0);
        due("IMAGES", x.count(1), 0);
        due("bytes", x.count(2), 0);
        due("back(0)", x.back(0), -2);
        due("back(1)", x.back(1), -2);
        due("fault()", x.fault(), 0);
        due("torn()", x.torn(), 0);
    }

    private static void promise1ObjectsShareNothing() {
        List<String> first = Scene.tell(new MangleLine());
        Scene.tell(Scene.BUSY.make());
        Scene.tell(Scene.FULL.make());
        CHECK.same("a new object behind others", Scene.tell(new MangleLine()), first);
    }

    // ---- promise 2: feed

    private static void promise2TheLeastAndTheGreatestByte() {
        MangleLine x = new MangleLine();
        due("feed(0)", x.feed(0), 1);
        due("feed(127)", x.feed(127), 2);
        due("bytes", x.count(2), 2);
    }

    private static void promise2WhatIsNoByteIsBadAlsoOnAFullTape() {
        for (int c : Check.outside(0, 127)) {
            CHECK.refuses("feed(" + c + ")", -1, x -> x.feed(c));
        }
    }

    private static void promise2The160thIsTakenThe161stIsNot() {
        MangleLine x = Check.fed(new MangleLine(), " ".repeat(159));
        due("the 160th", x.feed(' '), 160);
        due("the 161st", x.feed(' '), -3);
        due("bytes", x.count(2), 160);
        CHECK.leaves("feed(32)", Scene.FULL, -3, y -> y.feed(32));
        CHECK.leaves("feed(0)", Scene.FULL, -3, y -> y.feed(0));
        CHECK.leaves("feed(127)", Scene.FULL, -3, y -> y.feed(127));
    }

    private static void promise2AFullTapeHasRoomAgain() {
        MangleLine x = Scene.FULL.make();
        x.end(159);
        due("behind end(159)", x.feed(' '), 160);
        due("full again", x.feed(' '), -3);
        x.text();
        due("behind a text", x.feed(' '), 1);
        MangleLine y = Check.fed(new MangleLine(), "@".repeat(160));
        y.text();
        due("behind a text that is refused", y.feed(' '), 1);
    }

    // ---- promise 3: end

    private static void promise3NothingOnTheTape() {
        MangleLine x = new MangleLine();
        due("end(0)", x.end(0), 0);
        for (int n : Check.outside(0, 0)) {
            CHECK.leaves("end(" + n + ")", Scene.NEW, -1, y -> y.end(n));
        }
    }

    private static void promise3NoneAndAllAreKept() {
        MangleLine x = Check.fed(new MangleLine(), "sun;");
        due("end(4)", x.end(4), 4);
        due("all are there", x.count(2), 4);
        due("end(3)", x.end(3), 4);
        due("end(0)", x.end(0), 3);
        due("none is there", x.count(2), 0);
        due("a text of nothing", x.text(), 0);
    }

    private static void promise3MoreThanThereAreIsBad() {
        for (int n : Check.outside(0, 13)) {
            CHECK.leaves("end(" + n + ")", Scene.BUSY, -1, x -> x.end(n));
        }
        for (int n : Check.outside(0, 160)) {
            CHECK.leaves("end(" + n + ")", Scene.FULL, -1, x -> x.end(n));
        }
        CHECK.leaves("end(13)", Scene.BUSY, 13, x -> x.end(13));
        CHECK.leaves("end(160)", Scene.FULL, 160, x -> x.end(160));
    }

    private static void promise3TheFirstAreKept() {
        MangleLine x = Check.fed(new MangleLine(), "plain 5;wicked 6;");
        x.end(8);
        due("what is cut off is told no more", x.text(), 1);
        due("KIND", x.one(0, 0), 0);
        due("GREY", x.one(0, 1), 5);
        Check.fed(x, "plain 15;");
        x.end(7);
        due("what comes behind them", Check.fed(x, "7;").text(), 1);
        due("GREY", x.one(0, 1), 17);
        Check.fed(x, "plain 15;");
        x.end(7);
        due("a NUMBER that is cut off", Check.fed(x, ";").text(), 1);
        due("GREY", x.one(0, 1), 1);
    }

    // ---- promise 4: text

    private static void promise4NothingOnTheTapeIsNoLine() {
        MangleLine x = Check.told("plain 1;");
        due("text()", x.text(), 0);
        due("nobody", x.rule(0), 0);
        taken(" ", 0);
        taken(" ".repeat(160), 0);
    }

    private static void promise4AsManyLinesAsThereMayBe() {
        String twelve = SIX + "blue 1;batch 1;pegs 1;pass 1;soak 1;sun;";
        taken(twelve, 12);
        taken(twelve + " ".repeat(160 - twelve.length()), 12);
        taken(" ".repeat(160 - twelve.length()) + twelve, 12);
    }

    private static void promise4TheFirstAndTheLastPlace() {
        faulty("@", 1, 0);
        faulty(" ".repeat(159) + "@", 1, 159);
        faulty(" ".repeat(157) + "sun", 2, 160);
        faulty(" ".repeat(155) + "sun 1", 2, 160);
        faulty("sun" + " ".repeat(157), 2, 160);
        faulty(" ".repeat(158) + "10", 2, 158);
        faulty(" ".repeat(157) + "100", 1, 157);
    }

    private static void promise4TheTapeIsEmptyThen() {
        MangleLine x = Check.fed(new MangleLine(), "plain 1;");
        x.text();
        due("taken", x.count(2), 0);
        Check.fed(x, "plain 61;").text();
        due("refused", x.count(2), 0);
        due("nothing is left of either", x.text(), 0);
    }

    private static void promise4ARefusedTextChangesTheTapeAlone() {
        String[] texts = {"@", "plane 1;", "plain 61;", "sun;sun;", SIX + "plain 1;", "plain 1;wicked 2;blue 0;sun 1 2 3"};
        for (Scene scene : Scene.values()) {
            MangleLine twin = scene.make();
            twin.end(0);
            List<String> due = Scene.tell(twin);
            due.removeIf(told -> told.startsWith("fault()"));
            for (String text : texts) {
                MangleLine x = scene.make();
                x.end(0);
                CHECK.holds("refused: " + text, Check.fed(x, text).text() <= -10);
                List<String> told = Scene.tell(x);
                told.removeIf(line -> line.startsWith("fault()"));
                CHECK.same("'" + text + "' of " + scene, told, due);
            }
        }
    }

    private static void promise4ATextTellsAllInPlaceOfWhatThereWas() {
        for (Scene scene : Scene.values()) {
            MangleLine x = scene.make();
            x.end(0);
            due("text()", x.text(), 0);
            for (int w = 0; w <= 6; w++) {
                due("rule(" + w + ")", x.rule(w), w == 6 ? 4 : 0);
                due("sun(" + w + ")", x.sun(w), 4);
            }
            for (int w = 0; w < 5; w++) {
                due("told(" + w + ")", x.told(w), AT_FIRST[w]);
            }
            due("nothing is SEEN", x.count(0), 0);
            due("IMAGES are gone", x.count(1), 0);
            due("IMAGE 0 is gone", x.back(0), -2);
            due("IMAGE 1 is gone", x.back(1), -2);
            due("WET of all", x.count(4), 0);
        }
    }

    private static void promise4ATextTellsNothingOfTheSheets() {
        for (Scene scene : Scene.values()) {
            MangleLine x = scene.make();
            x.end(0);
            int cells = x.count(3);
            int torn = x.torn();
            due("text()", Check.fed(x, "napkin 1;").text(), 1);
            due("CELLS of SHEET 0", x.count(3), cells);
            due("torn()", x.torn(), torn);
        }
        MangleLine x = Scene.BUSY.make();
        x.end(0);
        x.text();
        due("what was laid is read", x.read(0, 0, 0, 2), 2);
        due("GREY", x.rule(5), 50);
    }

    private static void promise4SunsThatAreNotToldAre4() {
        StringBuilder suns = new StringBuilder("sun");
        for (int n = 0; n <= 7; n++) {
            MangleLine x = Check.told("sun 9 9 9 9 9 9 9;");
            Check.fed(x, suns + ";").text();
            for (int d = 0; d < 7; d++) {
                due(suns + ": sun(" + d + ")", x.sun(d), d < n ? (d + 5) % 10 : 4);
            }
            suns.append(' ').append((n + 5) % 10);
        }
    }

    /** Each byte alone: the blank is between TOKENS, letters, figures and ; are TOKENS, all others are none. */
    private static void promise4EachByteAlone() {
        for (char c = 0; c < 128; c++) {
            boolean token = c >= 'a' && c <= 'z' || c >= '0' && c <= '9' || c == ';';
            if (c == ' ') {
                taken(" ", 0);
            } else {
                faulty(String.valueOf(c), token ? 2 : 1, 0);
            }
        }
    }

    private static void promise4EachByteBetweenTwoTokens() {
        for (char c = 0; c < 128; c++) {
            String text = "plain" + c + "5;";
            if (c == ' ') {
                taken(text, 1);
            } else if (c >= '0' && c <= '6') {
                MangleLine x = Check.fed(new MangleLine(), text);
                int number = 10 * (c - '0') + 5;
                due("text of '" + text + "'", x.text(), number > 60 ? -15 : 1);
            } else if (c >= '7' && c <= '9') {
                faulty(text, 3, 5);
            } else if (c >= 'a' && c <= 'z') {
                faulty(text, 2, 0);
            } else {
                faulty(text, c == ';' ? 2 : 1, 5);
            }
        }
    }

    private static void promise4ANumberHasOneOrTwoFigures() {
        taken("plain 0;", 1);
        taken("plain 00;", 1);
        taken("plain 60;", 1);
        faulty("plain 000;", 1, 6);
        faulty("plain 001;", 1, 6);
        faulty("plain 100;", 1, 6);
        faulty("plain " + "9".repeat(154), 1, 6);
        faulty("0".repeat(160), 1, 0);
        MangleLine x = Check.told("plain 09;");
        due("GREY of 09", x.one(0, 1), 9);
    }

    private static void promise4TokensAreAsLongAsMayBe() {
        taken("plain60;wicked0;sun9 9;", 3);
        faulty("plainplain 1;", 2, 0);
        faulty("plain 1blue;", 2, 7);
        faulty("sun 123;", 1, 4);
        faulty("plain 6 0;", 2, 8);
        faulty("pl ain 1;", 2, 0);
        taken("plain   1   ;   ", 1);
        faulty("plain 1;;", 2, 8);
    }

    private static void promise4Fault2ANameThatBeginsNoLine() {
        for (String word : List.of("plain", "wicked", "creased", "napkin", "blue", "batch", "pegs", "pass", "soak", "sun")) {
            taken(word + " 1;", 1);
            faulty(word.substring(1) + " 1;", 2, 0);
            faulty(word.substring(0, word.length() - 1) + " 1;", 2, 0);
            faulty(word + "a 1;", 2, 0);
            faulty("plain 1; a" + word + " 1;", 2, 9);
            for (int c = 0; c < word.length(); c++) {
                faulty(word.substring(0, c) + "z" + word.substring(c + 1) + " 1;", 2, 0);
            }
        }
        faulty("a".repeat(160), 2, 0);
    }

    private static void promise4Fault2WhereALineBegins() {
        faulty(";", 2, 0);
        faulty("5;", 2, 0);
        faulty("plain 1;;", 2, 8);
        faulty("plain 1; 60;", 2, 9);
    }

    private static void promise4Fault2WhereANumberStands() {
        for (String word : List.of("plain", "wicked", "creased", "napkin", "blue", "batch", "pegs", "pass", "soak")) {
            int n = word.length();
            faulty(word + ";", 2, n);
            faulty(word + " " + word + " 1;", 2, n + 1);
            faulty(word, 2, n);
            faulty(word + "   ", 2, n + 3);
        }
        faulty("sun", 2, 3);
        faulty("sun sun;", 2, 4);
        faulty("sun 1 2 3 4 5 6", 2, 15);
        faulty("sun 1 2 3 4 5 6 plain 1;", 2, 16);
    }

    private static void promise4Fault2WhereAnEndOfALineStands() {
        for (String word : List.of("plain", "wicked", "creased", "napkin", "blue", "batch", "pegs", "pass", "soak")) {
            int n = word.length() + 2;
            faulty(word + " 1", 2, n);
            faulty(word + " 1  ", 2, n + 2);
            faulty(word + " 1 1;", 2, n + 1);
            faulty(word + " 1 sun;", 2, n + 1);
        }
    }

    private static void promise4Fault3GreyOfEachKind() {
        for (String kind : KINDS) {
            MangleLine x = Check.told(kind + " 0;" + kind + " 60;");
            due("the least GREY", x.one(0, 1), 0);
            due("the greatest GREY", x.one(1, 1), 60);
            faulty(kind + " 61;", 3, kind.length() + 1);
            faulty(kind + " 99;", 3, kind.length() + 1);
        }
    }

    private static void promise4Fault3EachRule() {
        for (int w = 0; w < 5; w++) {
            int place = RULES[w].length() + 1;
            MangleLine x = Check.told(RULES[w] + " " + LEAST[w] + ";");
            due("the least " + RULES[w], x.told(w), LEAST[w]);
            Check.fed(x, RULES[w] + " " + MOST[w] + ";").text();
            due("the greatest " + RULES[w], x.told(w), MOST[w]);
            faulty(RULES[w] + " " + (MOST[w] + 1) + ";", 3, place);
            faulty(RULES[w] + " 99;", 3, place);
            faulty(RULES[w] + " -1;", 1, place);
        }
        faulty("batch 0;", 3, 6);
        faulty("batch 00;", 3, 6);
        faulty("soak 0;", 3, 5);
    }

    private static void promise4Fault3EachSun() {
        for (int d = 0; d < 7; d++) {
            String ahead = "sun" + " 1".repeat(d);
            MangleLine x = Check.told(ahead + " 9;");
            due("the greatest", x.sun(d), 9);
            Check.fed(x, ahead + " 0;").text();
            due("the least", x.sun(d), 0);
            faulty(ahead + " 10;", 3, ahead.length() + 1);
            faulty(ahead + " 99;", 3, ahead.length() + 1);
        }
    }

    private static void promise4Fault4ForTheSecondTime() {
        List<String> words = List.of("blue", "batch", "pegs", "pass", "soak", "sun");
        for (String word : words) {
            String line = word + " 1;";
            for (String other : words) {
                if (!other.equals(word)) {
                    String both = line + other + " 1;";
                    faulty(both + line, 4, both.length());
                }
            }
            faulty(line + line, 4, line.length());
            faulty(line + "plain 1; " + line, 4, line.length() + 9);
            faulty(line + word, 4, line.length());
            faulty(line + word + " 100;", 4, line.length());
            faulty(line + word + "@", 4, line.length());
        }
        faulty("sun;sun;", 4, 4);
        taken("plain 1;plain 1;", 2);
        taken("blue 1;batch 1;pegs 1;pass 1;soak 1;sun 1;", 6);
    }

    private static void promise4Fault5The7thOne() {
        taken(SIX, 6);
        taken(SIX + "blue 1;", 7);
        for (String kind : KINDS) {
            faulty(SIX + kind + " 1;", 5, SIX.length());
            faulty(SIX + " " + kind, 5, SIX.length() + 1);
            faulty(SIX + kind + " 61;", 5, SIX.length());
            faulty(SIX + kind + " 100;", 5, SIX.length());
            faulty(SIX + kind + "@", 5, SIX.length());
        }
        faulty(SIX + "plane 1;", 2, SIX.length());
    }

    private static void promise4Fault5An8thSun() {
        String seven = "sun 1 1 1 1 1 1 1";
        taken(seven + ";", 1);
        taken(seven + " ;", 1);
        for (String number : List.of("0", "9", "00", "10", "99")) {
            faulty(seven + " " + number + ";", 5, 18);
            faulty(seven + "   " + number, 5, 20);
        }
        faulty(seven + " 100;", 1, 18);
        faulty(seven + " @", 1, 18);
        faulty(seven + " blue 1;", 2, 18);
        faulty(seven, 2, 17);
        faulty(seven + "  ", 2, 19);
    }

    private static void promise4TheFirstFaultMet() {
        faulty("plain 61@", 3, 6);
        faulty("plain 61 61", 3, 6);
        faulty("plain 61", 3, 6);
        faulty("plain @61", 1, 6);
        faulty("plain 1@", 1, 7);
        faulty("plane @", 2, 0);
        faulty("plain 1;plane;@", 2, 8);
        faulty("plain 1;@;plane", 1, 8);
        faulty("sun 10 @", 3, 4);
        faulty("sun 1 1 1 1 1 1 1 1 @", 5, 18);
        faulty("blue 10;blue 1;", 3, 5);
    }

    // ---- promise 5: fault

    private static void promise5NoTextYet() {
        due("fault()", new MangleLine().fault(), 0);
        due("of bytes that are no text yet", Check.fed(new MangleLine(), "@").fault(), 0);
    }

    private static void promise5EachFaultIsTheLatest() {
        String[] texts = {"plain 1;", "@", "plane", "plain 61;", "sun;sun;", SIX + "plain 1;", ""};
        int[] faults = {0, 1, 2, 3, 4, 5, 0};
        MangleLine x = new MangleLine();
        for (int t = 0; t < texts.length; t++) {
            Check.fed(x, texts[t]).text();
            due("fault() of '" + texts[t] + "'", x.fault(), faults[t]);
            due("asked again", x.fault(), faults[t]);
        }
    }

    private static void promise5OtherCallsLeaveIt() {
        MangleLine x = Check.fed(new MangleLine(), "plain 61;");
        x.text();
        x.feed(128);
        x.end(-1);
        x.keep(0);
        x.back(0);
        x.sheet(0, 0, -1);
        x.lay(0, 0, 0);
        x.read(0, 0, 0, 1);
        x.days(1);
        due("fault()", x.fault(), 3);
        due("torn()", x.torn(), 1);
    }

    // ---- promise 6: rule

    private static void promise6WhatOutOfBoundsIsBad() {
        for (int what : Check.outside(0, 6)) {
            CHECK.refuses("rule(" + what + ")", -1, x -> x.rule(what));
        }
    }

    private static void promise6TheFirstAndTheLastWhat() {
        CHECK.leaves("rule(0)", Scene.BUSY, 4, x -> x.rule(0));
        CHECK.leaves("rule(6)", Scene.BUSY, 3, x -> x.rule(6));
        CHECK.leaves("rule(0)", Scene.FULL, 6, x -> x.rule(0));
        CHECK.leaves("rule(1)", Scene.FULL, 999, x -> x.rule(1));
    }

    private static void promise6SixAndTheirGreatestNumbers() {
        MangleLine x = new MangleLine();
        for (int i = 0; i < 6; i++) {
            x.bring(0, 60);
        }
        due("HEAP", x.rule(2), 63);
        due("GREY", x.rule(5), 360);
        x.set(1, 6);
        x.set(2, 6);
        x.days(1);
        due("LINE", x.rule(3), 63);
        due("no HEAP", x.rule(2), 0);
        x.set(0, 9);
        x.days(30);
        due("HOME", x.rule(4), 63);
        due("no LINE", x.rule(3), 0);
        due("no GREY", x.rule(5), 0);
    }

    private static void promise6TheSunOfTheDayTurnsOver() {
        MangleLine x = Check.told("sun 0 1 2 3 4 5 6;");
        for (int day = 0; day <= 15; day++) {
            due("DAY", x.rule(1), day);
            due("SUN of DAY " + day, x.rule(6), day % 7);
            x.days(1);
        }
        Check.daysTo(x, 999);
        due("SUN of the last DAY", x.rule(6), 5);
    }

    // ---- promise 7: told

    private static void promise7WhatOutOfBoundsIsBad() {
        for (int what : Check.outside(0, 4)) {
            CHECK.refuses("told(" + what + ")", -1, x -> x.told(what));
        }
    }

    private static void promise7TheFirstAndTheLastWhat() {
        CHECK.leaves("told(0)", Scene.BUSY, 5, x -> x.told(0));
        CHECK.leaves("told(4)", Scene.BUSY, 11, x -> x.told(4));
    }

    // ---- promise 8: one

    private static void promise8NoSuchOneIsBad() {
        for (int i : Check.outside(0, 5)) {
            CHECK.refuses("one(" + i + ", 0)", -1, x -> x.one(i, 0));
        }
        CHECK.leaves("one(0, 0)", Scene.NEW, -1, x -> x.one(0, 0));
        CHECK.leaves("one(4, 0)", Scene.BUSY, -1, x -> x.one(4, 0));
        CHECK.leaves("one(3, 0)", Scene.BUSY, 3, x -> x.one(3, 0));
        CHECK.leaves("one(5, 0)", Scene.FULL, 1, x -> x.one(5, 0));
    }

    private static void promise8WhatOutOfBoundsIsBad() {
        for (int what : Check.outside(0, 5)) {
            CHECK.refuses("one(0, " + what + ")", -1, x -> x.one(0, what));
        }
        CHECK.leaves("one(1, 0)", Scene.BUSY, 1, x -> x.one(1, 0));
        CHECK.leaves("one(1, 5)", Scene.BUSY, 3, x -> x.one(1, 5));
    }

    private static void promise8ScrubsByEachBlue() {
        MangleLine x = Check.told("plain 1;wicked 1;creased 1;napkin 1;");
        int[][] scrubs = {
            {0, 0, 0, 0}, {1, 0, 1, 0}, {2, 1, 2, 0}, {3, 1, 3, 0}, {4, 2, 4, 1},
            {5, 2, 5, 1}, {6, 3, 6, 2}, {7, 3, 7, 2}, {8, 4, 8, 3}, {9, 4, 9, 3},
        };
        for (int blue = 0; blue <= 9; blue++) {
            x.set(0, blue);
            for (int kind = 0; kind < 4; kind++) {
                due("SCRUBS of KIND " + kind + " by BLUE " + blue, x.one(kind, 4), scrubs[blue][kind]);
            }
        }
    }

    private static void promise8DriesByEachSun() {
        MangleLine x = Check.told("plain 1;wicked 1;creased 1;napkin 1;");
        for (int sun = 0; sun <= 9; sun++) {
            x.shine(0, sun);
            due("plain by SUN " + sun, x.one(0, 5), sun);
            due("wicked by SUN " + sun, x.one(1, 5), sun);
            due("creased by SUN " + sun, x.one(2, 5), new int[] {0, 0, 1, 1, 2, 2, 3, 3, 4, 4}[sun]);
            due("napkin by SUN " + sun, x.one(3, 5), sun + sun);
        }
    }

    private static void promise8DriesByTheSunOfThisDay() {
        MangleLine x = Check.told("plain 1;sun 0 1 2 3 4 5 6;");
        for (int day = 0; day <= 8; day++) {
            due("DRIES on DAY " + day, x.one(0, 5), day % 7);
            x.days(1);
        }
    }

    // ---- promise 9: sun

    private static void promise9ADayOutOfTheWeekIsBad() {
        for (int d : Check.outside(0, 6)) {
            CHECK.refuses("sun(" + d + ")", -1, x -> x.sun(d));
        }
    }

    private static void promise9TheFirstAndTheLastDay() {
        CHECK.leaves("sun(0)", Scene.BUSY, 6, x -> x.sun(0));
        CHECK.leaves("sun(6)", Scene.BUSY, 1, x -> x.sun(6));
        MangleLine x = Check.told("sun 9 8 7 6 5 4 3;");
        x.days(8);
        due("by the week, not from this DAY on", x.sun(0), 9);
    }
}
