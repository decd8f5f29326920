/** Promises 37 to 41: sheet, lay, read, torn, count. */
public final class SheetTest {
    private static final Check CHECK = new Check("SheetTest");
    private static final int[] FAR = {Integer.MIN_VALUE, -1, Integer.MAX_VALUE, Integer.MAX_VALUE - 1};

    public static void main(String[] args) {
        sheet();
        lay();
        lowestBits();
        readAll();
        readFromACell();
        cutShort();
        refused();
        refusedAheadOfTheCut();
        full();
        nothingAndAnotherLane();
        noneToRead();
        tornIsOfTheLatestThatEnded();
        wrong();
        count();
        CHECK.end();
    }

    private static void due(String call, long got, long want) {
        CHECK.due(call, got, want);
    }

    private static void sheet() {
        MangleLine x = new MangleLine();
        due("sheet(0, 0, 0)", x.sheet(0, 0, 0), 1);
        due("no CELLS", x.count(3), 0);
        due("sheet(0, 2, 40)", x.sheet(0, 2, 40), 1);
        due("40 CELLS", x.count(3), 40);
        due("41", x.sheet(0, 2, 41), -1);
        due("-1", x.sheet(0, 2, -1), -14);
        due("the least", x.sheet(0, 2, Integer.MIN_VALUE), -14);
        due("the greatest", x.sheet(0, 2, Integer.MAX_VALUE), -1);
        due("40 still", x.count(3), 40);
        due("no SHEET", x.sheet(4, 0, 1), -1);
        due("no SHEET", x.sheet(-1, 0, 1), -1);
        due("no SHEET, SIZE", x.sheet(4, 0, -1), -1);
        due("no lane", x.sheet(0, 3, 1), -1);
        due("no lane", x.sheet(0, -1, 1), -1);
        due("no lane, SIZE", x.sheet(0, 3, -1), -1);
        due("refused SIZE leaves nothing", x.sheet(1, 0, -5), -14);
        due("nothing", x.lay(1, 0, 0), -11);
        x.lay(0, 1, 9);
        due("sheet anew", x.sheet(0, 2, 2), 1);
        x.read(0, 2, 0, 1);
        due("CELLS are 0", x.one(0, 1), 0);
    }

    private static void lay() {
        MangleLine x = new MangleLine();
        x.sheet(3, 1, 5);
        due("lay first", x.lay(3, 0, 7), 1);
        due("lay last", x.lay(3, 4, 7), 1);
        due("behind", x.lay(3, 5, 7), -12);
        for (int far : FAR) {
            due("INDEX " + far, x.lay(3, far, 7), -12);
            due("NULL " + far, x.lay(2, far, 7), -11);
            due("no SHEET " + far, x.lay(far, 0, 7), -1);
        }
        due("no SHEET", x.lay(4, 0, 7), -1);
        x.sheet(0, 0, 0);
        due("an empty one", x.lay(0, 0, 0), -12);
        due("torn is of read()", x.torn(), 0);
    }

    /** GREY as it is read behind it has been laid by a number. */
    private static int greyOf(int lane, int v) {
        MangleLine x = new MangleLine();
        x.sheet(0, lane, 2);
        x.lay(0, 1, v);
        return x.read(0, lane, 0, 1) == 1 ? x.one(0, 1) : -1;
    }

    private static void lowestBits() {
        due("BYTES 60", greyOf(0, 60), 60);
        due("BYTES 61", greyOf(0, 61), -1);
        due("BYTES 128 is below 0", greyOf(0, 128), -1);
        due("BYTES 255 is below 0", greyOf(0, 255), -1);
        due("BYTES 256", greyOf(0, 256), 0);
        due("BYTES 256 + 60", greyOf(0, 316), 60);
        due("BYTES -256 + 5", greyOf(0, -251), 5);
        due("SHORTS 256", greyOf(1, 256), -1);
        due("SHORTS 60", greyOf(1, 60), 60);
        due("SHORTS 65535 is below 0", greyOf(1, 65535), -1);
        due("SHORTS 65536 + 9", greyOf(1, 65545), 9);
        due("SHORTS below", greyOf(1, Integer.MIN_VALUE + 4), 4);
        due("INTS 65536", greyOf(2, 65536), -1);
        due("INTS 60", greyOf(2, 60), 60);
        due("INTS below", greyOf(2, Integer.MIN_VALUE + 4), -1);
    }

    private static void readAll() {
        for (int lane = 0; lane < 3; lane++) {
            MangleLine x = Check.laid(new MangleLine(), lane + 1, lane, 0, 60, 1, 0, 2, 30, 3, 7);
            due("read", x.read(lane + 1, lane, 0, 4), 4);
            due("torn", x.torn(), 0);
            int[] greys = {60, 0, 30, 7};
            for (int i = 0; i < 4; i++) {
                due("KIND", x.one(i, 0), i);
                due("GREY", x.one(i, 1), greys[i]);
                due("WET", x.one(i, 2), 0);
            }
            due("all in the HEAP", x.rule(2), 15);
            due("two more", x.read(lane + 1, lane, 2, 2), 2);
            due("six", x.rule(0), 6);
        }
    }

    private static void readFromACell() {
        MangleLine x = Check.laid(new MangleLine(), 0, 0, 9, 1, 5, 2, 6);
        due("from CELL 1", x.read(0, 0, 1, 2), 2);
        due("KIND", x.one(0, 0), 1);
        due("GREY", x.one(1, 1), 6);
    }

    private static void cutShort() {
        MangleLine x = Check.laid(new MangleLine(), 0, 0, 0, 1, 1, 2, 9);
        due("a half is not whole", x.read(0, 0, 0, 3), 2);
        due("torn", x.torn(), 2);
        due("two", x.rule(0), 2);
        due("the last alone", x.read(0, 0, 4, 1), 0);
        due("torn", x.torn(), 2);
        due("behind the end", x.read(0, 0, 5, 1), 0);
        due("torn", x.torn(), 2);
        for (int far : FAR) {
            due("from " + far, x.read(0, 0, far, 20), 0);
            due("torn", x.torn(), 2);
        }
        due("two still", x.rule(0), 2);
        due("whole again", x.read(0, 0, 0, 1), 1);
        due("torn", x.torn(), 0);
        MangleLine y = new MangleLine();
        y.sheet(0, 0, 0);
        due("an empty one", y.read(0, 0, 0, 1), 0);
        due("torn", y.torn(), 2);
        due("none of it", y.read(0, 0, 0, 0), 0);
        due("torn", y.torn(), 0);
    }

    private static void refused() {
        MangleLine x = Check.laid(new MangleLine(), 0, 2, 0, 1, 1, 2, 4, 3, 0, 61);
        due("the third", x.read(0, 2, 0, 4), -22);
        due("none came", x.rule(0), 0);
        due("the first of these", x.read(0, 2, 4, 2), -20);
        due("the GREY", x.read(0, 2, 6, 1), -20);
        due("two", x.read(0, 2, 0, 2), 2);
        due("behind two others, still the i-th of these", x.read(0, 2, 2, 2), -21);
        due("two still", x.rule(0), 2);
        due("they stay as they were", x.rule(5), 3);
        x.lay(0, 4, -1);
        due("a KIND below 0", x.read(0, 2, 4, 1), -20);
    }

    private static void refusedAheadOfTheCut() {
        MangleLine x = Check.laid(new MangleLine(), 0, 0, 0, 1, 0, 61, 7);
        due("refused first", x.read(0, 0, 0, 3), -21);
        due("none came", x.rule(0), 0);
        due("torn as it was", x.torn(), 0);
        due("a KIND without its GREY is never whole", x.read(0, 0, 4, 1), 0);
        due("torn", x.torn(), 2);
    }

    private static void full() {
        MangleLine x = new MangleLine();
        x.sheet(0, 0, 40);
        due("the 7th is refused", x.read(0, 0, 0, 20), -26);
        due("none came", x.rule(0), 0);
        due("six", x.read(0, 0, 0, 6), 6);
        due("a 7th", x.read(0, 0, 0, 1), -20);
        due("none asked for", x.read(0, 0, 0, 0), 0);
        due("behind the end", x.read(0, 0, 40, 1), 0);
        due("torn", x.torn(), 2);
        due("six still", x.rule(0), 6);
    }

    private static void nothingAndAnotherLane() {
        MangleLine x = Check.laid(new MangleLine(), 1, 1, 0, 1, 0, 1);
        due("nothing", x.read(0, 0, 0, 1), 0);
        due("NULL", x.torn(), 1);
        due("nothing at any lane", x.read(0, 2, -5, 20), 0);
        due("NULL", x.torn(), 1);
        due("BYTES", x.read(1, 0, 0, 1), 0);
        due("CAST", x.torn(), 3);
        due("SHORTS", x.read(1, 1, 0, 1), 1);
        due("none", x.torn(), 0);
        due("INTS", x.read(1, 2, 0, 1), 0);
        due("CAST", x.torn(), 3);
        due("CAST ahead of INDEX", x.read(1, 2, -1, 1), 0);
        due("CAST", x.torn(), 3);
        due("one came", x.rule(0), 1);
    }

    /** 0 times nothing is read: the machine refuses nothing, and an earlier FAULT is the latest no more. */
    private static void noneToRead() {
        MangleLine x = Check.laid(new MangleLine(), 1, 1, 0, 1);
        x.sheet(2, 0, 0);
        readsNone(x, 0, 0, 0);
        readsNone(x, 0, 2, -7);
        readsNone(x, 1, 1, -7);
        readsNone(x, 1, 1, 2);
        readsNone(x, 1, 0, 0);
        readsNone(x, 1, 2, 40);
        readsNone(x, 2, 0, 0);
        readsNone(x, 2, 1, 0);
        due("nobody came", x.rule(0), 0);
    }

    private static void readsNone(MangleLine x, int k, int lane, int f) {
        x.read(1, 1, 1, 1);
        due("a FAULT ahead", x.torn(), 2);
        due("none of " + k + " as of " + lane + " from " + f, x.read(k, lane, f, 0), 0);
        due("no FAULT", x.torn(), 0);
    }

    private static void tornIsOfTheLatestThatEnded() {
        MangleLine x = Check.laid(new MangleLine(), 0, 0, 0, 61);
        x.read(1, 0, 0, 1);
        due("NULL", x.torn(), 1);
        due("refused", x.read(0, 0, 0, 1), -20);
        due("it did not come to an end", x.torn(), 1);
        due("BAD", x.read(4, 0, 0, 1), -1);
        due("nor did that", x.torn(), 1);
        x.lay(0, 1, 60);
        x.read(0, 0, 0, 1);
        due("this did", x.torn(), 0);
    }

    private static void wrong() {
        MangleLine x = Check.laid(new MangleLine(), 0, 0, 0, 1);
        due("k -1", x.read(-1, 0, 0, 1), -1);
        due("k 4", x.read(4, 0, 0, 1), -1);
        due("lane -1", x.read(0, -1, 0, 1), -1);
        due("lane 3", x.read(0, 3, 0, 1), -1);
        due("n -1", x.read(0, 0, 0, -1), -1);
        due("n 21", x.read(0, 0, 0, 21), -1);
        due("n 20", x.read(0, 0, 0, 20), 1);
    }

    private static void count() {
        MangleLine x = Check.told("plain 9;plain 9;sun 9 8 7 6 5 4 3;");
        due("count(-1)", x.count(-1), -1);
        due("count(6)", x.count(6), -1);
        x.see(0, 0, 0);
        x.see(0, 0, 0);
        due("SEEN", x.count(0), 2);
        x.keep(1);
        due("IMAGES", x.count(1), 1);
        Check.fed(x, "abc");
        due("bytes", x.count(2), 3);
        x.sheet(1, 0, 9);
        due("SHEET 0 is nothing", x.count(3), -4);
        x.sheet(0, 0, 8);
        due("CELLS", x.count(3), 8);
        x.alter(0, 2, 20);
        x.alter(1, 2, 3);
        due("WET", x.count(4), 23);
        due("SUN", x.count(5), 42);
        due("GREY", x.rule(5), 18);
    }
}
