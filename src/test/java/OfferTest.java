import java.util.Random;

/** Promises 43 and 44: offers, and the best sheet. */
public final class OfferTest {
    private static final Check CHECK = new Check();

    public static void main(String[] args) {
        testOffer();
        testWrongSheets();
        testSheet();
        testEqual();
        testBounds();
        testFullList();
        testAgainstModel();
        CHECK.end("OfferTest");
    }

    private static void testOffer() {
        LightSails x = new LightSails();
        int[][] wrong = {{-21, 0, 0, 0}, {21, 0, 0, 0}, {0, -21, 0, 0}, {0, 21, 0, 0}, {0, 0, -1, 0}, {0, 0, 1001, 0},
            {0, 0, 0, -1}, {0, 0, 0, 101}};
        for (int[] w : wrong) {
            CHECK.badArgument("offer", () -> x.offer(w[0], w[1], w[2], w[3]));
        }
        CHECK.same("none came", x.count(17), 0);
        for (int i = 0; i < 12; i++) {
            CHECK.same("offer " + i, i % 2 == 0 ? x.offer(-20, 20, 0, 0) : x.offer(20, -20, 1000, 100), i);
        }
        CHECK.same("a 13th", x.offer(0, 0, 0, 0), -1);
        CHECK.badArgument("a wrong 13th", () -> x.offer(0, 0, 0, 101));
        CHECK.same("offers", x.count(17), 12);
    }

    private static void testWrongSheets() {
        LightSails x = new LightSails();
        int[][] wrong = {{-1, 0, 0}, {1201, 0, 0}, {0, -1, 0}, {0, 1000001, 0}, {0, 0, -1}, {0, 0, 5}};
        for (int[] w : wrong) {
            CHECK.badArgument("sheet", () -> x.sheet(w[0], w[1], w[2]));
        }
        for (int what = 0; what < 5; what++) {
            CHECK.same("the empty set", x.sheet(1200, 1000000, what), 0);
            CHECK.same("the empty set", x.sheet(0, 0, what), 0);
        }
    }

    private static void sheet(LightSails x, int budget, int bound, int... due) {
        for (int what = 0; what < 5; what++) {
            CHECK.same("sheet " + budget + " " + bound + " " + what, x.sheet(budget, bound, what), due[what]);
        }
    }

    private static void testSheet() {
        LightSails x = new LightSails();
        x.offer(-2, 1, 10, 5);
        x.offer(1, 0, 20, 5);
        x.offer(5, -3, 30, 9);
        sheet(x, 100, 1000, 7, 60, 19, -20 + 20 + 150, 10 - 90);
        sheet(x, 18, 1000, 6, 50, 14, 170, -90);
        sheet(x, 13, 1000, 4, 30, 9, 150, -90);
        sheet(x, 13, 149, 3, 30, 10, 0, 10);
        sheet(x, 13, 9, 0, 0, 0, 0, 0);
        sheet(x, 9, 149, 2, 20, 5, 20, 0);
        sheet(x, 4, 1000, 0, 0, 0, 0, 0);
    }

    private static void testEqual() {
        LightSails x = new LightSails();
        x.offer(0, 0, 0, 1);
        x.offer(0, 0, 5, 2);
        x.offer(1, 0, 5, 2);
        x.offer(0, 1, 10, 4);
        x.offer(0, 0, 0, 0);
        // Gain 10 for cost 4: offers 1 and 2, or 3; the one with offer 1 is first; offer 4 costs nothing.
        sheet(x, 4, 100, 2 + 4 + 16, 10, 4, 5, 0);
        sheet(x, 0, 100, 16, 0, 0, 0, 0);
        // With a bound of 4 offers 2 and 3 turn too much.
        sheet(x, 4, 4, 2 + 16, 5, 2, 0, 0);
        LightSails y = new LightSails();
        y.offer(0, 0, 10, 4);
        y.offer(0, 0, 10, 3);
        sheet(y, 4, 0, 2, 10, 3, 0, 0);
        LightSails z = new LightSails();
        for (int i = 0; i < 12; i++) {
            z.offer(0, 0, 7, 3);
        }
        sheet(z, 9, 0, 7, 21, 9, 0, 0);
    }

    private static void testBounds() {
        int[][] spots = {{3, 0}, {-3, 0}, {0, 3}, {0, -3}};
        for (int[] s : spots) {
            LightSails x = new LightSails();
            x.offer(s[0], s[1], 7, 0);
            sheet(x, 0, 20, 0, 0, 0, 0, 0);
            sheet(x, 0, 21, 1, 7, 0, 7 * s[0], 7 * s[1]);
        }
    }

    private static void testFullList() {
        LightSails x = new LightSails();
        for (int i = 0; i < 12; i++) {
            x.offer(20, -20, 1000, 100);
        }
        sheet(x, 1200, 1000000, 4095, 12000, 1200, 240000, -240000);
        sheet(x, 1200, 239999, 2047, 11000, 1100, 220000, -220000);
        sheet(x, 1199, 1000000, 2047, 11000, 1100, 220000, -220000);
        sheet(x, 99, 1000000, 0, 0, 0, 0, 0);
    }

    private static void testAgainstModel() {
        Random r = new Random(43);
        for (int run = 0; run < 300; run++) {
            LightSails x = new LightSails();
            Model m = new Model();
            int offers = r.nextInt(13);
            int gains = r.nextBoolean() ? 4 : 1001;
            for (int i = 0; i < offers; i++) {
                int[] o = {r.nextInt(41) - 20, r.nextInt(41) - 20, r.nextInt(gains), r.nextInt(r.nextBoolean() ? 4 : 101)};
                CHECK.same("offer", x.offer(o[0], o[1], o[2], o[3]), m.offer(o[0], o[1], o[2], o[3]));
            }
            for (int i = 0; i < 4; i++) {
                int budget = r.nextInt(r.nextBoolean() ? 10 : 600);
                int bound = r.nextInt(gains * 30);
                for (int what = 0; what < 5; what++) {
                    CHECK.same("sheet", x.sheet(budget, bound, what), m.sheet(budget, bound, what));
                }
            }
        }
    }
}
