/** Promises 35 and 36: keep, back. */
public final class ImageTest {
    private static final Check CHECK = new Check("ImageTest");

    public static void main(String[] args) {
        keepAndBack();
        whatAnImageIs();
        whatWasSeen();
        twoImages();
        wrong();
        CHECK.end();
    }

    private static void due(String call, long got, long want) {
        CHECK.due(call, got, want);
    }

    private static void keepAndBack() {
        MangleLine x = Check.told("plain 7;");
        due("none yet", x.back(0), -2);
        due("keep(0)", x.keep(0), 0);
        due("IMAGES", x.count(1), 1);
        due("keep(0) again", x.keep(0), 1);
        due("IMAGES", x.count(1), 1);
        due("keep(1)", x.keep(1), 0);
        due("IMAGES", x.count(1), 2);
        x.days(5);
        due("keep(0) anew", x.keep(0), 1);
        due("back(1)", x.back(1), 0);
        due("back(0)", x.back(0), 5);
        due("back(0) again", x.back(0), 5);
        due("IMAGES stay", x.count(1), 2);
    }

    private static void whatAnImageIs() {
        MangleLine x = Check.told("plain 7;wicked 4;blue 5;batch 4;pegs 1;pass 9;soak 6;sun 6 3;");
        x.days(1);
        x.see(1, 1, 2);
        x.see(2, 0, 1);
        int[] seen = {x.kinds(0), x.kinds(1), x.greys(0), x.greys(1)};
        int[][] ones = new int[2][4];
        for (int i = 0; i < 2; i++) {
            for (int w = 0; w < 4; w++) {
                ones[i][w] = x.one(i, w);
            }
        }
        x.keep(1);
        x.bring(3, 3);
        for (int w = 0; w < 5; w++) {
            x.set(w, 2);
        }
        for (int d = 0; d < 7; d++) {
            x.shine(d, 9);
        }
        x.days(8);
        for (int i = 0; i < 2; i++) {
            x.alter(i, 0, 2);
            x.alter(i, 1, 33);
            x.alter(i, 2, 11);
        }
        x.forget(0);
        x.see(0, 2, 0);
        due("back(1)", x.back(1), 1);
        due("ONES", x.rule(0), 2);
        due("DAY", x.rule(1), 1);
        int[] rules = {5, 4, 1, 9, 6};
        for (int w = 0; w < 5; w++) {
            due("told(" + w + ")", x.told(w), rules[w]);
        }
        due("sun(0)", x.sun(0), 6);
        due("sun(1)", x.sun(1), 3);
        due("sun(6)", x.sun(6), 4);
        for (int i = 0; i < 2; i++) {
            for (int w = 0; w < 4; w++) {
                due("one(" + i + ", " + w + ")", x.one(i, w), ones[i][w]);
            }
        }
        due("SEEN", x.count(0), 2);
        due("kinds(0)", x.kinds(0), seen[0]);
        due("kinds(1)", x.kinds(1), seen[1]);
        due("greys(0)", x.greys(0), seen[2]);
        due("greys(1)", x.greys(1), seen[3]);
    }

    private static void whatWasSeen() {
        MangleLine x = Check.told("plain 0;plain 0;");
        x.see(2, 0, 2);
        x.keep(0);
        int[][] others = {{1, 0, 2}, {2, 1, 2}, {2, 0, 1}};
        for (int[] other : others) {
            x.forget(0);
            x.see(other[0], other[1], other[2]);
            x.see(20, 0, 0);
            CHECK.holds("another", x.kinds(0) != 11);
            x.back(0);
            due("SEEN", x.count(0), 1);
            due("as it was SEEN", x.kinds(0), 11);
        }
    }

    private static void twoImages() {
        MangleLine x = Check.told("plain 7;");
        x.keep(0);
        x.alter(0, 1, 8);
        x.keep(1);
        x.alter(0, 1, 9);
        x.back(0);
        due("GREY of the first", x.one(0, 1), 7);
        x.back(1);
        due("GREY of the second", x.one(0, 1), 8);
        x.bring(0, 0);
        x.back(0);
        due("ONES of the first", x.rule(0), 1);
        Check.fed(x, "@").text();
        due("a refused text leaves them", x.count(1), 2);
        x.feed('p');
        x.sheet(0, 0, 3);
        x.read(1, 0, 0, 1);
        due("back", x.back(1), 0);
        due("THE TAPE stays", x.count(2), 1);
        due("SHEETS stay", x.count(3), 3);
        due("torn stays", x.torn(), 1);
        x.end(0);
        x.text();
        due("a text takes them away", x.count(1), 0);
        due("back(0)", x.back(0), -2);
        due("keep(0)", x.keep(0), 0);
    }

    private static void wrong() {
        MangleLine x = new MangleLine();
        due("keep(-1)", x.keep(-1), -1);
        due("keep(2)", x.keep(2), -1);
        due("back(-1)", x.back(-1), -1);
        due("back(2)", x.back(2), -1);
        due("IMAGES", x.count(1), 0);
        due("keep of nobody", x.keep(0), 0);
        x.bring(0, 0);
        due("back to nobody", x.back(0), 0);
        due("nobody", x.rule(0), 0);
    }
}
