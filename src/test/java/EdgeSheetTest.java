import java.util.List;

/** The edges of promises 35 to 41, a test for each sentence that names one. */
public final class EdgeSheetTest {
    private static final Check CHECK = new Check("EdgeSheetTest");

    public static void main(String[] args) {
        CHECK.runPromises(EdgeSheetTest.class, 35, 41);
        CHECK.end();
    }

    private static void due(String call, long got, long want) {
        CHECK.due(call, got, want);
    }

    /** A new object whose SHEET 0 is a row of these CELLS. */
    private static MangleLine laid(int lane, int... cells) {
        return Check.laid(new MangleLine(), 0, lane, cells);
    }

    // ---- promise 35: keep

    private static void promise35NoSuchImageIsBad() {
        for (int k : Check.outside(0, 1)) {
            CHECK.refuses("keep(" + k + ")", -1, x -> x.keep(k));
        }
    }

    private static void promise35WhetherThereWasOne() {
        for (int k = 0; k < 2; k++) {
            MangleLine x = Check.told("plain 1;");
            due("none was", x.keep(k), 0);
            due("one was", x.keep(k), 1);
            due("not the other", x.keep(1 - k), 0);
            due("IMAGES", x.count(1), 2);
            x.text();
            due("a text took it away", x.keep(k), 0);
        }
    }

    private static void promise35NobodyIsAnImageToo() {
        MangleLine x = new MangleLine();
        due("keep(1)", x.keep(1), 0);
        x.bring(0, 0);
        x.days(3);
        due("back(1)", x.back(1), 0);
        due("nobody", x.rule(0), 0);
    }

    private static void promise35AllOfTheSixAndAllThatWasSeen() {
        MangleLine x = Scene.FULL.make();
        x.keep(1);
        x.end(0);
        MangleLine y = Scene.FULL.make();
        y.keep(1);
        y.end(0);
        for (int i = 0; i < 6; i++) {
            y.alter(i, 0, 2);
            y.alter(i, 1, 59);
            y.alter(i, 2, 19);
            y.fetch(i);
        }
        for (int w = 0; w < 5; w++) {
            y.set(w, 4);
        }
        for (int d = 0; d < 7; d++) {
            y.shine(d, d);
        }
        y.forget(0);
        y.see(0, 0, 1);
        due("back(1)", y.back(1), 999);
        CHECK.same("all is as it was kept", Scene.tell(y), Scene.tell(x));
    }

    private static void promise35LaterChangesAreNotInIt() {
        MangleLine x = Check.told("plain 7;");
        x.see(1, 0, 1);
        x.keep(0);
        x.back(0);
        x.alter(0, 1, 60);
        x.shine(0, 9);
        x.set(0, 9);
        x.see(2, 0, 1);
        x.days(1);
        due("back(0)", x.back(0), 0);
        due("GREY", x.one(0, 1), 7);
        due("SUN", x.sun(0), 4);
        due("BLUE", x.told(0), 3);
        due("SEEN", x.count(0), 1);
    }

    // ---- promise 36: back

    private static void promise36NoSuchImageIsBad() {
        for (int k : Check.outside(0, 1)) {
            CHECK.refuses("back(" + k + ")", -1, x -> x.back(k));
        }
    }

    private static void promise36NoImageIsState() {
        CHECK.leaves("back(0)", Scene.NEW, -2, x -> x.back(0));
        CHECK.leaves("back(1)", Scene.NEW, -2, x -> x.back(1));
        CHECK.leaves("back(1)", Scene.BUSY, -2, x -> x.back(1));
        MangleLine x = Scene.FULL.make();
        x.end(0);
        x.text();
        due("a text took it away", x.back(0), -2);
        due("a text took it away", x.back(1), -2);
    }

    private static void promise36TheFirstDayAndTheLast() {
        MangleLine x = new MangleLine();
        x.keep(0);
        Check.daysTo(x, 999);
        x.keep(1);
        due("back(0)", x.back(0), 0);
        due("DAY", x.rule(1), 0);
        due("back(1)", x.back(1), 999);
        due("DAY", x.rule(1), 999);
        due("days(1)", x.days(1), -3);
        due("back(0) again", x.back(0), 0);
        due("days(1)", x.days(1), 0);
    }

    private static void promise36WhatIsNotOfAnImageStays() {
        MangleLine x = Scene.BUSY.make();
        due("back(0)", x.back(0), 1);
        due("IMAGES", x.count(1), 1);
        due("bytes", x.count(2), 13);
        due("CELLS", x.count(3), 4);
        due("fault()", x.fault(), 3);
        due("torn()", x.torn(), 2);
        due("SEEN of the IMAGE", x.count(0), 1);
    }

    private static void promise36FewerAndMoreOnesThanThereAre() {
        MangleLine x = Check.told("plain 1;plain 2;plain 3;");
        x.days(1);
        x.keep(0);
        x.text();
        x.keep(0);
        x.bring(1, 9);
        x.keep(1);
        for (int i = 1; i < 6; i++) {
            x.bring(2, i);
        }
        due("six", x.rule(0), 6);
        x.back(1);
        due("one", x.rule(0), 1);
        due("no second", x.one(1, 0), -1);
        due("bring", x.bring(3, 8), 2);
        due("dry", x.one(1, 2), 0);
        x.back(0);
        due("nobody", x.rule(0), 0);
    }

    // ---- promise 37: sheet

    private static void promise37NoSuchSheetOrLaneIsBad() {
        for (int k : Check.outside(0, 3)) {
            CHECK.refuses("sheet(" + k + ", 0, 1)", -1, x -> x.sheet(k, 0, 1));
            CHECK.refuses("sheet(" + k + ", 0, -1)", -1, x -> x.sheet(k, 0, -1));
        }
        for (int lane : Check.outside(0, 2)) {
            CHECK.refuses("sheet(0, " + lane + ", 1)", -1, x -> x.sheet(0, lane, 1));
            CHECK.refuses("sheet(0, " + lane + ", -1)", -1, x -> x.sheet(0, lane, -1));
        }
    }

    private static void promise37MoreThan40IsBadBelow0IsSize() {
        for (int k = 0; k < 4; k++) {
            int sheet = k;
            for (int n : new int[] {41, Integer.MAX_VALUE}) {
                CHECK.refuses("sheet(" + k + ", 1, " + n + ")", -1, x -> x.sheet(sheet, 1, n));
            }
            for (int n : new int[] {-1, Integer.MIN_VALUE}) {
                CHECK.refuses("sheet(" + k + ", 1, " + n + ")", -14, x -> x.sheet(sheet, 1, n));
            }
        }
    }

    private static void promise37EachSheetOfEachLaneOfNoneAnd40() {
        for (int k = 0; k < 4; k++) {
            for (int lane = 0; lane < 3; lane++) {
                MangleLine x = new MangleLine();
                due("of 40", x.sheet(k, lane, 40), 1);
                due("the last CELL", x.lay(k, 39, 1), 1);
                due("behind it", x.lay(k, 40, 1), -12);
                due("of none", x.sheet(k, lane, 0), 1);
                due("no CELL", x.lay(k, 0, 1), -12);
                due("of one", x.sheet(k, lane, 1), 1);
                due("the CELL", x.lay(k, 0, 1), 1);
                due("behind it", x.lay(k, 1, 1), -12);
                due("CELLS of SHEET 0", x.count(3), k == 0 ? 1 : -4);
            }
        }
    }

    private static void promise37ANewRowIsOfCells0() {
        for (int lane = 0; lane < 3; lane++) {
            MangleLine x = new MangleLine();
            x.sheet(0, lane, 12);
            for (int i = 0; i < 12; i++) {
                x.lay(0, i, 3);
            }
            due("anew", x.sheet(0, lane, 12), 1);
            due("six are read", x.read(0, lane, 0, 6), 6);
            for (int i = 0; i < 6; i++) {
                due("KIND", x.one(i, 0), 0);
                due("GREY", x.one(i, 1), 0);
            }
        }
    }

    private static void promise37ASmallerRowAndThenAGreater() {
        MangleLine x = laid(2, 1, 11, 2, 22, 3, 33);
        x.sheet(0, 2, 2);
        x.sheet(0, 2, 6);
        due("read", x.read(0, 2, 0, 3), 3);
        due("nothing of the first row is left", x.rule(5), 0);
    }

    // ---- promise 38: lay

    private static void promise38NoSuchSheetIsBad() {
        for (int k : Check.outside(0, 3)) {
            CHECK.refuses("lay(" + k + ", 0, 1)", -1, x -> x.lay(k, 0, 1));
            CHECK.refuses("lay(" + k + ", -1, 1)", -1, x -> x.lay(k, -1, 1));
        }
    }

    private static void promise38OfNothingIsNullWhateverTheCell() {
        for (int cell : new int[] {0, -1, 40, Integer.MIN_VALUE, Integer.MAX_VALUE}) {
            CHECK.leaves("lay(0, " + cell + ", 1)", Scene.NEW, -11, x -> x.lay(0, cell, 1));
            CHECK.leaves("lay(3, " + cell + ", 1)", Scene.BUSY, -11, x -> x.lay(3, cell, 1));
        }
    }

    private static void promise38OutOfTheRowIsIndex() {
        for (int cell : Check.outside(0, 3)) {
            CHECK.leaves("lay(0, " + cell + ", 1)", Scene.BUSY, -12, x -> x.lay(0, cell, 1));
        }
        for (int cell : Check.outside(0, 2)) {
            CHECK.leaves("lay(1, " + cell + ", 1)", Scene.BUSY, -12, x -> x.lay(1, cell, 1));
        }
        for (int cell : Check.outside(0, 39)) {
            CHECK.leaves("lay(3, " + cell + ", 1)", Scene.FULL, -12, x -> x.lay(3, cell, 1));
        }
        CHECK.leaves("lay(2, 0, 1)", Scene.BUSY, -12, x -> x.lay(2, 0, 1));
    }

    private static void promise38TheFirstCellAndTheLast() {
        MangleLine x = Scene.FULL.make();
        x.text();
        due("lay(2, 0, 3)", x.lay(2, 0, 3), 1);
        due("lay(2, 39, 60)", x.lay(2, 39, 60), 1);
        due("the first two", x.read(2, 2, 0, 1), 1);
        due("the last two", x.read(2, 2, 38, 1), 1);
        due("KIND", x.one(1, 0), 3);
        due("GREY", x.one(2, 1), 60);
    }

    /** GREY as it is read where v was laid; -1: bring() refused it. */
    private static int greyOf(int lane, int v) {
        MangleLine x = laid(lane, 0, v);
        return x.read(0, lane, 0, 1) == 1 ? x.one(0, 1) : -1;
    }

    private static void promise38TheLowestBitsOfALane() {
        int[] bits = {8, 16, 32};
        for (int lane = 0; lane < 3; lane++) {
            for (int other = 0; other < 3; other++) {
                long turn = 1L << bits[other];
                // A number beyond what the lane holds turns over; beyond what an int holds there is none.
                for (long v = turn; v <= turn + 61; v += 1) {
                    if (v <= Integer.MAX_VALUE) {
                        int rest = (int) (v - turn);
                        due("lane " + lane + ", " + v, greyOf(lane, (int) v), other >= lane && rest <= 60 ? rest : -1);
                    }
                }
            }
            due("60", greyOf(lane, 60), 60);
            due("61", greyOf(lane, 61), -1);
            due("-1", greyOf(lane, -1), -1);
        }
    }

    private static void promise38TheSignIsTheHighestBitOfTheLane() {
        due("BYTES 127", greyOf(0, 127), -1);
        due("BYTES 128", greyOf(0, 128), -1);
        due("BYTES 255", greyOf(0, 255), -1);
        due("BYTES -256", greyOf(0, -256), 0);
        due("BYTES -196", greyOf(0, -196), 60);
        due("BYTES the least", greyOf(0, Integer.MIN_VALUE), 0);
        due("BYTES the greatest", greyOf(0, Integer.MAX_VALUE), -1);
        due("SHORTS 32767", greyOf(1, 32767), -1);
        due("SHORTS 32768", greyOf(1, 32768), -1);
        due("SHORTS 65535", greyOf(1, 65535), -1);
        due("SHORTS -65536", greyOf(1, -65536), 0);
        due("SHORTS -65476", greyOf(1, -65476), 60);
        due("SHORTS the least", greyOf(1, Integer.MIN_VALUE), 0);
        due("SHORTS the greatest", greyOf(1, Integer.MAX_VALUE), -1);
        due("INTS the least", greyOf(2, Integer.MIN_VALUE), -1);
        due("INTS the greatest", greyOf(2, Integer.MAX_VALUE), -1);
    }

    private static void promise38LeavesTornAndAllElse() {
        MangleLine x = Scene.BUSY.make();
        x.lay(0, 9, 1);
        x.lay(3, 0, 1);
        due("torn()", x.torn(), 2);
        due("CELL 1 as it is", x.lay(0, 1, 20), 1);
        CHECK.same("nothing else", Scene.tell(x), Scene.BUSY.untouched());
    }

    // ---- promise 39: read

    private static void promise39NoSuchSheetOrLaneIsBad() {
        for (int k : Check.outside(0, 3)) {
            CHECK.refuses("read(" + k + ", 0, 0, 1)", -1, x -> x.read(k, 0, 0, 1));
        }
        for (int lane : Check.outside(0, 2)) {
            CHECK.refuses("read(0, " + lane + ", 0, 1)", -1, x -> x.read(0, lane, 0, 1));
        }
    }

    private static void promise39OutOfBoundsIsBad() {
        for (int n : Check.outside(0, 20)) {
            CHECK.refuses("read(0, 0, 0, " + n + ")", -1, x -> x.read(0, 0, 0, n));
            CHECK.refuses("read(3, 0, -1, " + n + ")", -1, x -> x.read(3, 0, -1, n));
        }
    }

    private static void promise39NoTimesReadsNothing() {
        int[] froms = {0, -1, 40, Integer.MIN_VALUE, Integer.MAX_VALUE};
        for (int f : froms) {
            for (int k = 0; k < 4; k++) {
                for (int lane = 0; lane < 3; lane++) {
                    MangleLine x = Scene.BUSY.make();
                    due("read(" + k + ", " + lane + ", " + f + ", 0)", x.read(k, lane, f, 0), 0);
                    due("torn()", x.torn(), 0);
                    due("nobody came", x.rule(0), 4);
                }
            }
            CHECK.leaves("read(0, 0, " + f + ", 0)", Scene.FULL, 0, x -> x.read(0, 0, f, 0));
        }
    }

    private static void promise39TwentyTimes() {
        MangleLine x = laid(0, 1, 11, 2, 22, 3, 33, 0, 44, 1, 55, 2, 60);
        due("six came", x.read(0, 0, 0, 20), 6);
        due("INDEX", x.torn(), 2);
        int[] greys = {11, 22, 33, 44, 55, 60};
        for (int i = 0; i < 6; i++) {
            due("KIND", x.one(i, 0), (i + 1) % 4);
            due("GREY", x.one(i, 1), greys[i]);
        }
        MangleLine y = new MangleLine();
        y.sheet(0, 0, 40);
        due("of forty CELLS the 7th is refused", y.read(0, 0, 0, 20), -26);
        due("none came", y.rule(0), 0);
    }

    private static void promise39TheMachineRefusesNothing() {
        for (int f : new int[] {0, -1, 7}) {
            for (int lane = 0; lane < 3; lane++) {
                MangleLine x = new MangleLine();
                due("of nothing", x.read(2, lane, f, 20), 0);
                due("NULL", x.torn(), 1);
                due("nobody came", x.rule(0), 0);
            }
        }
    }

    private static void promise39TheMachineRefusesAnotherLane() {
        for (int lane = 0; lane < 3; lane++) {
            for (int as = 0; as < 3; as++) {
                MangleLine x = laid(lane, 1, 5);
                due("lane " + lane + " as of " + as, x.read(0, as, 0, 1), lane == as ? 1 : 0);
                due("CAST", x.torn(), lane == as ? 0 : 3);
                due("came", x.rule(0), lane == as ? 1 : 0);
                due("from where there is no CELL", x.read(0, as, -1, 1), 0);
                due("CAST ahead of INDEX", x.torn(), lane == as ? 2 : 3);
            }
            MangleLine x = laid(lane);
            due("of no CELLS", x.read(0, (lane + 1) % 3, 0, 1), 0);
            due("CAST", x.torn(), 3);
        }
    }

    private static void promise39TheMachineRefusesACellThatIsNot() {
        int[] froms = {0, 1, 2, 3, 4, 5, 6, -1, -2, Integer.MIN_VALUE, Integer.MAX_VALUE, Integer.MAX_VALUE - 1};
        int[] whole = {2, 2, 1, 1, 0, 0, 0, 0, 0, 0, 0, 0};
        for (int k = 0; k < froms.length; k++) {
            MangleLine x = laid(2, 1, 2, 3, 0, 1);
            due("from CELL " + froms[k], x.read(0, 2, froms[k], 20), whole[k]);
            due("INDEX", x.torn(), 2);
            due("those that were whole came", x.rule(0), whole[k]);
        }
        MangleLine x = laid(0);
        due("no CELL at all", x.read(0, 0, 0, 1), 0);
        due("INDEX", x.torn(), 2);
    }

    private static void promise39ToTheLastCellAndOneBeyond() {
        MangleLine x = laid(1, 1, 5, 2, 6);
        due("two", x.read(0, 1, 0, 2), 2);
        due("none", x.torn(), 0);
        due("the last two CELLS", x.read(0, 1, 2, 1), 1);
        due("none", x.torn(), 0);
        due("three of them are not there", x.read(0, 1, 0, 3), 2);
        due("INDEX", x.torn(), 2);
        due("five", x.rule(0), 5);
    }

    private static void promise39RefusedByBringNoneCame() {
        int[][] wrong = {{4, 0}, {-1, 0}, {0, 61}, {0, -1}};
        for (int[] pair : wrong) {
            for (int at = 0; at < 4; at++) {
                int[] cells = {0, 1, 1, 2, 2, 3, 3, 4};
                cells[2 * at] = pair[0];
                cells[2 * at + 1] = pair[1];
                MangleLine x = laid(2, cells);
                due("the " + at + "-th", x.read(0, 2, 0, 4), -20 - at);
                due("none came", x.rule(0), 0);
                due("also by twenty", x.read(0, 2, 0, 20), -20 - at);
                due("none came", x.rule(0), 0);
                due("torn as it was", x.torn(), 0);
                due("those ahead", x.read(0, 2, 0, at), at);
                due("came", x.rule(0), at);
                due("the i-th of what is read", x.read(0, 2, 2 * at, 1), -20);
            }
        }
    }

    private static void promise39RefusedWhereItIsFull() {
        CHECK.leaves("read(0, 0, 0, 1)", Scene.FULL, -20, x -> x.read(0, 0, 0, 1));
        CHECK.leaves("read(0, 0, 0, 20)", Scene.FULL, -20, x -> x.read(0, 0, 0, 20));
        CHECK.leaves("read(2, 2, 38, 1)", Scene.FULL, -20, x -> x.read(2, 2, 38, 1));
        for (int there = 0; there <= 6; there++) {
            MangleLine x = new MangleLine();
            for (int i = 0; i < there; i++) {
                x.bring(1, 50);
            }
            x.sheet(0, 0, 40);
            due("of seven behind " + there, x.read(0, 0, 0, 7), -20 - (6 - there));
            due("none came", x.rule(0), there);
            due("as they were", x.rule(5), 50 * there);
            due("as many as there is room for", x.read(0, 0, 0, 6 - there), 6 - there);
            due("six", x.rule(0), 6);
        }
    }

    private static void promise39TheFirstMet() {
        MangleLine x = laid(0, 0, 1, 0, 61, 7);
        due("bring() ahead of INDEX", x.read(0, 0, 0, 3), -21);
        due("none came", x.rule(0), 0);
        due("a KIND out of bounds without its GREY is not whole", x.read(0, 0, 4, 1), 0);
        due("INDEX", x.torn(), 2);
        MangleLine y = Scene.FULL.make();
        due("INDEX where it is full", y.read(0, 0, 39, 1), 0);
        due("torn()", y.torn(), 2);
        due("CAST where it is full", y.read(0, 1, 0, 1), 0);
        due("torn()", y.torn(), 3);
    }

    private static void promise39WhatIsRefusedChangesNothing() {
        MangleLine x = Scene.BUSY.make();
        x.lay(0, 3, 61);
        List<String> before = Scene.tell(x);
        MangleLine y = Scene.BUSY.make();
        y.lay(0, 3, 61);
        due("the second", y.read(0, 0, 0, 2), -21);
        CHECK.same("nothing is changed", Scene.tell(y), before);
    }

    private static void promise39ComesAsByBring() {
        MangleLine x = Scene.BUSY.make();
        due("two", x.read(0, 0, 0, 2), 2);
        MangleLine y = Scene.BUSY.make();
        y.bring(1, 20);
        y.bring(2, 30);
        y.read(0, 0, 0, 0);
        CHECK.same("as by bring()", Scene.tell(x), Scene.tell(y));
    }

    // ---- promise 40: torn

    private static void promise40NothingWasReadYet() {
        MangleLine x = new MangleLine();
        due("torn()", x.torn(), 0);
        x.sheet(0, 0, -1);
        x.lay(0, 0, 0);
        x.sheet(0, 0, 1);
        x.lay(0, 1, 0);
        due("SIZE, NULL, INDEX of others do not count", x.torn(), 0);
    }

    private static void promise40TheLatestThatCameToAnEnd() {
        MangleLine x = laid(0, 0, 61, 0, 1);
        int[][] reads = {{1, 0, 0, 1}, {0, 0, 4, 1}, {0, 1, 0, 1}};
        int[] faults = {1, 2, 3};
        for (int r = 0; r < reads.length; r++) {
            due("read()", x.read(reads[r][0], reads[r][1], reads[r][2], reads[r][3]), 0);
            due("torn()", x.torn(), faults[r]);
            due("refused by bring()", x.read(0, 0, 0, 1), -20);
            due("torn() is as it was", x.torn(), faults[r]);
            due("BAD", x.read(0, 0, 0, 21), -1);
            due("torn() is as it was", x.torn(), faults[r]);
        }
        due("whole", x.read(0, 0, 2, 1), 1);
        due("torn()", x.torn(), 0);
        due("cut short", x.read(0, 0, 2, 2), 1);
        due("torn()", x.torn(), 2);
        due("no times", x.read(0, 0, 2, 0), 0);
        due("torn()", x.torn(), 0);
    }

    private static void promise40OtherCallsLeaveIt() {
        MangleLine x = new MangleLine();
        x.read(0, 0, 0, 1);
        x.sheet(0, 0, 2);
        x.lay(0, 0, 1);
        x.keep(0);
        x.back(0);
        x.text();
        x.days(1);
        due("torn()", x.torn(), 1);
        CHECK.onlyAsks("torn()", y -> y.torn());
    }

    // ---- promise 41: count

    private static void promise41WhatOutOfBoundsIsBad() {
        for (int what : Check.outside(0, 5)) {
            CHECK.refuses("count(" + what + ")", -1, x -> x.count(what));
        }
    }

    private static void promise41NothingThere() {
        int[] counts = {0, 0, 0, -4, 0, 28};
        for (int what = 0; what <= 5; what++) {
            int w = what;
            CHECK.leaves("count(" + w + ")", Scene.NEW, counts[w], x -> x.count(w));
        }
    }

    private static void promise41AsManyAsThereMayBe() {
        int[] counts = {6, 2, 160, 40, 12, 28};
        for (int what = 0; what <= 5; what++) {
            int w = what;
            CHECK.leaves("count(" + w + ")", Scene.FULL, counts[w], x -> x.count(w));
        }
        MangleLine x = Scene.FULL.make();
        for (int i = 0; i < 6; i++) {
            x.alter(i, 2, 20);
        }
        due("WET", x.count(4), 120);
        for (int d = 0; d < 7; d++) {
            x.shine(d, 9);
        }
        due("the greatest SUNS", x.count(5), 63);
        for (int d = 0; d < 7; d++) {
            x.shine(d, 0);
        }
        due("no SUN", x.count(5), 0);
    }

    private static void promise41CellsOfSheet0Alone() {
        MangleLine x = new MangleLine();
        for (int k = 1; k < 4; k++) {
            x.sheet(k, 0, 9);
            due("SHEET 0 is nothing", x.count(3), -4);
        }
        x.sheet(0, 0, -1);
        due("SHEET 0 is nothing still", x.count(3), -4);
        x.sheet(0, 0, 0);
        due("no CELLS", x.count(3), 0);
        x.sheet(0, 0, 41);
        due("no CELLS still", x.count(3), 0);
    }
}
