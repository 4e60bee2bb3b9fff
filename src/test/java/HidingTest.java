import java.util.Random;

/** Promises 30 to 34: coats, sights, fits. */
public final class HidingTest {
    private static final Check CHECK = new Check();

    public static void main(String[] args) {
        testCoat();
        testSight();
        testWrongCalls();
        testFits();
        testEnds();
        testAllRows();
        testShows();
        testTornPanel();
        testAgainstModel();
        CHECK.end("HidingTest");
    }

    private static void testCoat() {
        LightSails x = new LightSails();
        int[][] wrong = {{-1, 0}, {101, 0}, {0, -1}, {0, 101}, {51, 50}, {101, -1},
            {Integer.MAX_VALUE, Integer.MAX_VALUE}};
        for (int[] w : wrong) {
            CHECK.badArgument("coat", () -> x.coat(w[0], w[1]));
        }
        CHECK.same("none came", x.count(11), 0);
        int[][] right = {{0, 0}, {100, 0}, {0, 100}, {50, 50}, {50, 50}};
        for (int i = 0; i < 5; i++) {
            CHECK.same("coat " + i, x.coat(right[i][0], right[i][1]), i);
        }
        CHECK.same("a sixth", x.coat(1, 1), -1);
        CHECK.badArgument("a wrong sixth", () -> x.coat(51, 50));
        CHECK.same("coats", x.count(11), 5);
    }

    private static void testSight() {
        LightSails x = new LightSails();
        int[][] wrong = {{-9, 0, 0}, {9, 0, 0}, {0, -1, 0}, {0, 1000001, 0}, {0, 0, -1}, {0, 0, 10001}};
        for (int[] w : wrong) {
            CHECK.badArgument("sight", () -> x.sight(w[0], w[1], w[2]));
        }
        CHECK.same("none came", x.count(12), 0);
        int[][] right = {{-8, 0, 0}, {8, 1000000, 10000}, {0, 5, 5}};
        for (int i = 1; i <= 6; i++) {
            int[] r = right[i % 3];
            CHECK.same("sight " + i, x.sight(r[0], r[1], r[2]), i);
        }
        CHECK.same("a seventh", x.sight(0, 0, 0), -1);
        CHECK.badArgument("a wrong seventh", () -> x.sight(9, 0, 0));
        CHECK.same("sights", x.count(12), 6);
    }

    private static void testWrongCalls() {
        LightSails x = new LightSails();
        int[] wrong = {0, 1, 5, -1, Integer.MAX_VALUE};
        for (int m : wrong) {
            CHECK.badArgument("fits " + m, () -> x.fits(m));
            CHECK.badArgument("fit " + m, () -> x.fit(m, 0));
            CHECK.badArgument("shows " + m, () -> x.shows(m));
        }
        for (int i = 0; i < 5; i++) {
            x.panel(0, 0, 100, 50, 50);
        }
        CHECK.badArgument("fits 5", () -> x.fits(5));
        CHECK.badArgument("fit 5", () -> x.fit(5, 0));
        CHECK.badArgument("shows 5", () -> x.shows(5));
        CHECK.badArgument("fits 0", () -> x.fits(0));
        CHECK.same("no coats", x.fits(4), 0);
        CHECK.same("no coats", x.fit(4, 0), -1);
        CHECK.same("no coats", x.shows(4), -9);
    }

    private static void testFits() {
        LightSails x = new LightSails();
        x.panel(0, 0, 1000, 50, 50);
        x.panel(0, 0, 1000, 50, 50);
        x.panel(0, 0, 1000, 50, 50);
        x.coat(0, 100);
        x.coat(100, 0);
        // Pushes 1000 and 2000; the third panel has 1500 as it is.
        x.sight(0, 4500, 0);
        CHECK.same("one of two each way", x.fits(2), 2);
        CHECK.same("the first panel", x.fit(2, 0), 0);
        CHECK.same("the second panel", x.fit(2, 1), 1);
        CHECK.same("no third", x.fit(2, 2), -1);
        CHECK.same("no -1", x.fit(2, -1), -1);
        CHECK.same("all three: none is at a half", x.fits(3), 0);
        CHECK.same("no fit", x.fit(3, 0), -1);
        CHECK.same("no fit", x.shows(3), -9);
        CHECK.same("one alone", x.fits(1), 0);
        CHECK.same("panels are as they were", x.push(0, 0), 4500);
        CHECK.same("panels are as they were", x.of(0, 0), 50);
        x.sight(0, 4000, 500);
        CHECK.same("another sight holds", x.fits(2), 2);
        x.sight(0, 4000, 499);
        CHECK.same("a sight does not", x.fits(2), 0);
    }

    private static void testEnds() {
        int[][] rows = {{1000, 0, 1}, {990, 10, 1}, {989, 10, 0}, {1010, 10, 1}, {1011, 10, 0}};
        for (int[] row : rows) {
            LightSails x = new LightSails();
            x.panel(0, 0, 1000, 50, 50);
            x.coat(0, 100);
            x.sight(0, row[0], row[1]);
            CHECK.same("seen " + row[0] + " by " + row[1], x.fits(1), row[2]);
        }
    }

    private static void testAllRows() {
        LightSails x = new LightSails();
        for (int i = 0; i < 4; i++) {
            x.panel(0, 0, 1000 - i, 50, 50);
        }
        for (int i = 0; i < 5; i++) {
            x.coat(20 * i, 100 - 20 * i);
        }
        int[] due = {5, 25, 125, 625};
        for (int m = 1; m <= 4; m++) {
            CHECK.same("no sights, " + m, x.fits(m), due[m - 1]);
            for (int k = 0; k < m; k++) {
                CHECK.same("the first", x.fit(m, k), 0);
            }
        }
        Model model = new Model();
        for (int i = 0; i < 4; i++) {
            model.panel(0, 0, 1000 - i, 50, 50);
        }
        for (int i = 0; i < 5; i++) {
            model.coat(20 * i, 100 - 20 * i);
        }
        CHECK.same("shows", x.shows(4), model.shows(4));
        // The greatest push of four panels, 8,000, counts as a value too.
        LightSails y = new LightSails();
        for (int i = 0; i < 4; i++) {
            y.panel(0, 0, 1000, 50, 50);
        }
        y.coat(100, 0);
        y.coat(0, 0);
        CHECK.same("shows", y.shows(4), -8);
        y.sight(0, 8000, 0);
        CHECK.same("one fit", y.fits(4), 1);
        CHECK.same("shows", y.shows(4), -8);
    }

    private static void testShows() {
        LightSails x = new LightSails();
        x.panel(0, 0, 1, 0, 0);
        x.coat(0, 100);
        x.coat(100, 0);
        // An area of 1 pushes by 1 or 2 when it stands straight, by less when it is slanted.
        CHECK.same("the first slant with two values", x.shows(1), -4);
        x.sight(8, 0, 0);
        CHECK.same("it still shows", x.shows(1), -4);
        x.sight(0, 2, 0);
        CHECK.same("one fit", x.fits(1), 1);
        CHECK.same("all slants are alike then", x.shows(1), -8);
        LightSails y = new LightSails();
        int[][] flaps = {{4, -1}, {28, -2}};
        for (int i = 0; i < 2; i++) {
            y.panel(0, 0, flaps[i][0], 0, 0);
            y.flap(i);
            y.bend(i, flaps[i][1]);
        }
        y.coat(60, 23);
        y.coat(44, 49);
        CHECK.same("the last slant alone", y.shows(2), 8);
    }

    private static void testTornPanel() {
        LightSails x = new LightSails();
        x.panel(0, 0, 1000, 50, 50);
        x.panel(0, 0, 1000, 50, 50);
        x.coat(0, 100);
        x.coat(100, 0);
        x.tear(0);
        x.sight(0, 2000, 0);
        CHECK.same("any coat of the torn one", x.fits(2), 2);
        CHECK.same("its first", x.fit(2, 0), 0);
        CHECK.same("the other's", x.fit(2, 1), 1);
    }

    private static void testAgainstModel() {
        Random r = new Random(32);
        for (int run = 0; run < 60; run++) {
            LightSails x = new LightSails();
            Model m = new Model();
            int panels = 1 + r.nextInt(6);
            for (int i = 0; i < panels; i++) {
                int[] p = {1 + r.nextInt(1000), r.nextInt(51), r.nextInt(51)};
                x.panel(0, 0, p[0], p[1], p[2]);
                m.panel(0, 0, p[0], p[1], p[2]);
            }
            x.flap(0);
            m.flap(0);
            int bend = r.nextInt(5) - 2;
            x.bend(0, bend);
            m.bend(0, bend);
            for (int i = 0; i < 5; i++) {
                int[] c = {r.nextInt(51), r.nextInt(51)};
                x.coat(c[0], c[1]);
                m.coat(c[0], c[1]);
            }
            for (int i = 0; i < 6; i++) {
                int most = Math.min(4, panels);
                CHECK.same("fits", x.fits(most), m.fits(most));
                CHECK.same("shows", x.shows(most), m.shows(most));
                CHECK.same("fit", x.fit(most, most - 1), m.fit(most, most - 1));
                int slant = r.nextInt(17) - 8;
                int seen = m.push(slant, 0);
                int ends = r.nextInt(1000);
                CHECK.same("sight", x.sight(slant, seen, ends), m.sight(slant, seen, ends));
            }
        }
    }
}
