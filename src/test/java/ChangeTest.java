/** Promises 10 to 14: alter, set, shine, bring, fetch. */
public final class ChangeTest {
    private static final Check CHECK = new Check("ChangeTest");

    public static void main(String[] args) {
        alter();
        set();
        lineStaysWhenPegsAreFewer();
        shine();
        bring();
        fetch();
        CHECK.end();
    }

    private static void due(String call, long got, long want) {
        CHECK.due(call, got, want);
    }

    private static void alter() {
        MangleLine x = Check.told("plain 7;wicked 60;");
        int[] most = {3, 60, 20};
        int[] was = {1, 60, 0};
        for (int w = 0; w < 3; w++) {
            due("alter to the most", x.alter(1, w, most[w]), was[w]);
            due("one", x.one(1, w), most[w]);
            due("alter above", x.alter(1, w, most[w] + 1), -1);
            due("alter below", x.alter(1, w, -1), -1);
            due("one as it was", x.one(1, w), most[w]);
            due("alter to 0", x.alter(1, w, 0), most[w]);
            due("one 0", x.one(1, w), 0);
        }
        due("the other stays", x.one(0, 1), 7);
        due("no what", x.alter(0, 3, 0), -1);
        due("no what", x.alter(0, -1, 0), -1);
        due("no ONE", x.alter(2, 1, 0), -1);
        due("no ONE", x.alter(-1, 1, 0), -1);
        due("no ONE", x.alter(6, 1, 0), -1);
    }

    private static void set() {
        MangleLine x = new MangleLine();
        int[] least = {0, 1, 0, 0, 1};
        int[] most = {9, 6, 6, 30, 20};
        int[] first = {3, 2, 3, 0, 8};
        for (int w = 0; w < 5; w++) {
            due("set least", x.set(w, least[w]), first[w]);
            due("set most", x.set(w, most[w]), least[w]);
            due("set above", x.set(w, most[w] + 1), -1);
            due("set below", x.set(w, least[w] - 1), -1);
            due("told", x.told(w), most[w]);
        }
        due("no what", x.set(-1, 1), -1);
        due("no what", x.set(5, 1), -1);
        due("no what", x.set(Integer.MAX_VALUE, 1), -1);
    }

    private static void lineStaysWhenPegsAreFewer() {
        MangleLine x = Check.told("plain 7;plain 7;plain 7;sun 0 0 0 0 0 0 0;batch 6;");
        x.days(1);
        due("all on the LINE", x.rule(3), 7);
        due("set PEGS", x.set(2, 1), 3);
        due("they stay", x.rule(3), 7);
        x.days(1);
        due("still behind a day", x.rule(3), 7);
        x.fetch(0);
        x.days(1);
        due("no peg for it", x.rule(3), 6);
    }

    private static void shine() {
        MangleLine x = new MangleLine();
        for (int d = 0; d < 7; d++) {
            due("shine " + d, x.shine(d, 9 - d), 4);
        }
        for (int d = 0; d < 7; d++) {
            due("sun " + d, x.sun(d), 9 - d);
        }
        due("shine 0", x.shine(6, 0), 3);
        due("shine 9", x.shine(6, 9), 0);
        due("shine 10", x.shine(0, 10), -1);
        due("shine -1", x.shine(0, -1), -1);
        due("no day", x.shine(7, 1), -1);
        due("no day", x.shine(-1, 1), -1);
        due("sun as it was", x.sun(0), 9);
    }

    private static void bring() {
        MangleLine x = new MangleLine();
        due("bring(4, 0)", x.bring(4, 0), -1);
        due("bring(-1, 0)", x.bring(-1, 0), -1);
        due("bring(0, 61)", x.bring(0, 61), -1);
        due("bring(0, -1)", x.bring(0, -1), -1);
        due("nobody", x.rule(0), 0);
        for (int i = 0; i < 6; i++) {
            due("bring " + i, x.bring(i % 4, 60 - i), i + 1);
            due("KIND", x.one(i, 0), i % 4);
            due("GREY", x.one(i, 1), 60 - i);
            due("WET", x.one(i, 2), 0);
            due("HEAP", x.one(i, 3), 0);
        }
        due("the 7th", x.bring(0, 0), -3);
        due("the 7th, wrong", x.bring(0, 61), -1);
        due("six", x.rule(0), 6);

        MangleLine y = Check.told("plain 0;");
        y.days(1);
        y.runs(0, 0);
        due("nobody again", y.text(), 0);
        due("who is brought anew is in the HEAP", y.bring(2, 5), 1);
        due("and not wet", y.one(0, 2), 0);
        due("and in the HEAP", y.one(0, 3), 0);
    }

    private static void fetch() {
        MangleLine x = Check.told("plain 0;plain 0;plain 9;batch 1;sun 4 4 4 4 4 4 4;");
        due("in the HEAP", x.fetch(0), -2);
        x.days(2);
        due("one HOME", x.rule(4), 1);
        due("one on the LINE", x.rule(3), 2);
        due("no ONE", x.fetch(3), -1);
        due("no ONE", x.fetch(-1), -1);
        due("was HOME", x.fetch(0), 2);
        due("was on the LINE", x.fetch(1), 1);
        due("its WET stays", x.one(1, 2), 4);
        due("all in the HEAP", x.rule(2), 7);
        due("again", x.fetch(1), -2);
    }
}
