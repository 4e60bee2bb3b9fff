import java.util.Random;

/** Promises 9 to 18: panels, flaps, weights, push, turn, trim. */
public final class SailTest {
    private static final Check CHECK = new Check();

    public static void main(String[] args) {
        testPanel();
        testFacts();
        testFlaps();
        testWeights();
        testPush();
        testEachSlant();
        testTurn();
        testTrim();
        testTrimOfEqual();
        testAgainstModel();
        CHECK.end("SailTest");
    }

    private static void testPanel() {
        LightSails x = new LightSails();
        int[][] wrong = {{-21, 0, 1, 0, 0}, {21, 0, 1, 0, 0}, {0, -21, 1, 0, 0}, {0, 21, 1, 0, 0}, {0, 0, 0, 0, 0},
            {0, 0, 1001, 0, 0}, {0, 0, -1, 0, 0}, {0, 0, 1, -1, 0}, {0, 0, 1, 101, 0}, {0, 0, 1, 0, -1},
            {0, 0, 1, 0, 101}, {0, 0, 1, 51, 50}, {0, 0, 1, 100, 1}, {0, 0, 1, 101, -1}, {0, 0, 1, -1, 101},
            {0, 0, 1, Integer.MAX_VALUE, Integer.MAX_VALUE}, {Integer.MIN_VALUE, 0, 1, 0, 0}};
        for (int[] w : wrong) {
            CHECK.badArgument("panel", () -> x.panel(w[0], w[1], w[2], w[3], w[4]));
        }
        CHECK.same("none came", x.count(3), 0);
        int[][] right = {{-20, -20, 1, 0, 0}, {20, 20, 1000, 100, 0}, {0, 0, 500, 0, 100}, {0, 0, 500, 50, 50}};
        for (int i = 0; i < 16; i++) {
            int[] r = right[i % 4];
            CHECK.same("panel " + i, x.panel(r[0], r[1], r[2], r[3], r[4]), i);
            CHECK.same("panels", x.count(3), i + 1);
        }
        CHECK.same("a 17th", x.panel(0, 0, 1, 0, 0), -1);
        CHECK.badArgument("a wrong 17th", () -> x.panel(0, 0, 0, 0, 0));
        CHECK.same("panels", x.count(3), 16);
    }

    private static void testFacts() {
        LightSails x = new LightSails();
        CHECK.noElement("of none", () -> x.of(0, 9));
        CHECK.noElement("tear none", () -> Check.number(x.tear(0)));
        x.panel(1, 2, 3, 40, 50);
        int[] due = {40, 50, 0, 0, 0};
        for (int what = 0; what < 5; what++) {
            CHECK.same("of " + what, x.of(0, what), due[what]);
        }
        CHECK.badArgument("of 5", () -> x.of(0, 5));
        CHECK.badArgument("of -1", () -> x.of(0, -1));
        CHECK.noElement("of panel 1", () -> x.of(1, 0));
        CHECK.noElement("of panel -1", () -> x.of(-1, 0));
        CHECK.noElement("tear 1", () -> Check.number(x.tear(1)));
        CHECK.noElement("tear -1", () -> Check.number(x.tear(-1)));
        CHECK.no("tear", x.tear(0));
        CHECK.yes("tear again", x.tear(0));
        CHECK.same("torn", x.of(0, 2), 1);
    }

    private static void testFlaps() {
        LightSails x = new LightSails();
        for (int i = 0; i < 6; i++) {
            x.panel(i, 0, 100, 50, 50);
        }
        CHECK.noElement("flap 6", () -> x.flap(6));
        CHECK.noElement("flap -1", () -> x.flap(-1));
        CHECK.badIndex("bend none", () -> x.bend(0, 9));
        CHECK.badIndex("stuck none", () -> Check.number(x.stuck(0, true)));
        CHECK.same("flap", x.flap(5), 0);
        CHECK.same("flap again", x.flap(5), -2);
        CHECK.same("flap", x.flap(0), 1);
        CHECK.same("flap", x.flap(1), 2);
        CHECK.same("flap", x.flap(2), 3);
        CHECK.same("a fifth", x.flap(3), -1);
        CHECK.same("a fifth that is one", x.flap(5), -1);
        CHECK.same("flaps", x.count(4), 4);
        testBending(x);
    }

    private static void testBending(LightSails x) {
        CHECK.badArgument("bend 3", () -> x.bend(0, 3));
        CHECK.badArgument("bend -3", () -> x.bend(0, -3));
        CHECK.badIndex("flap 4", () -> x.bend(4, 0));
        CHECK.badIndex("flap -1", () -> x.bend(-1, 0));
        CHECK.badIndex("stuck 4", () -> Check.number(x.stuck(4, true)));
        CHECK.badIndex("stuck -1", () -> Check.number(x.stuck(-1, true)));
        CHECK.same("bend 2", x.bend(3, 2), 0);
        CHECK.same("bend -2", x.bend(3, -2), 2);
        CHECK.same("bend 1", x.bend(3, 1), -2);
        CHECK.no("stuck", x.stuck(3, true));
        CHECK.yes("stuck already", x.stuck(3, true));
        CHECK.same("bend of a stuck one", x.bend(3, 0), -3);
        CHECK.badArgument("wrong bend of a stuck one", () -> x.bend(3, 3));
        CHECK.yes("free again", x.stuck(3, false));
        CHECK.same("it stayed", x.bend(3, 0), 1);
        CHECK.same("another one is at 0", x.bend(0, 0), 0);
    }

    private static void testWeights() {
        LightSails x = new LightSails();
        x.panel(20, -20, 1000, 100, 0);
        int[][] wrong = {{21, 0}, {-21, 0}, {0, 21}, {0, -21}, {Integer.MIN_VALUE, 0}};
        for (int[] w : wrong) {
            CHECK.badArgument("weights", () -> { x.weights(w[0], w[1]); return 0; });
        }
        CHECK.same("turn x", x.turn(0, 0), 40000);
        CHECK.same("turn y", x.turn(0, 1), -40000);
        x.weights(-20, 20);
        CHECK.same("turn x", x.turn(0, 0), 80000);
        CHECK.same("turn y", x.turn(0, 1), -80000);
        x.weights(20, -20);
        CHECK.same("turn x", x.turn(0, 0), 0);
        CHECK.same("turn y", x.turn(0, 1), 0);
    }

    private static void testPush() {
        LightSails x = new LightSails();
        CHECK.same("no panels", x.push(0, 0), 0);
        int[][] wrong = {{9, 0}, {-9, 0}, {0, 2}, {0, -1}, {Integer.MIN_VALUE, 0}};
        for (int[] w : wrong) {
            CHECK.badArgument("push", () -> x.push(w[0], w[1]));
            CHECK.badArgument("turn", () -> x.turn(w[0], w[1]));
        }
        x.panel(0, 0, 1000, 100, 0);
        x.panel(0, 0, 7, 33, 11);
        CHECK.same("x", x.push(0, 0), 2000 + 5);
        // 7 * 866 * (2 * 33 * 500) by 100,000,000 is 2.0004; 7 * 985 * (2 * 33 * 174) by it is 0.79.
        CHECK.same("y", x.push(3, 1), 866 + 2);
        CHECK.same("y the other way, cut towards 0", x.push(-3, 1), -866 - 2);
        CHECK.same("y, a small one", x.push(-1, 1), -342);
        x.tear(0);
        CHECK.same("y of the other alone", x.push(-1, 1), 0);
    }

    private static void testEachSlant() {
        int[] cos = {1000, 985, 940, 866, 766, 643, 500, 342, 174};
        int[] sin = {0, 174, 342, 500, 643, 766, 866, 940, 985};
        LightSails x = new LightSails();
        x.panel(1, 0, 1000, 0, 100);
        LightSails y = new LightSails();
        y.panel(1, 0, 1000, 50, 0);
        for (int s = -8; s <= 8; s++) {
            long c = cos[Math.abs(s)];
            long n = s < 0 ? -sin[-s] : sin[s];
            CHECK.same("x by kept", x.push(s, 0), c);
            CHECK.same("press by kept", x.turn(s, 0), c * c / 1000);
            CHECK.same("x by back", y.push(s, 0), c * c / 1000);
            CHECK.same("y by back", y.push(s, 1), c * n / 1000);
            CHECK.same("press by back", y.turn(s, 0), c * c / 1000);
        }
        x.flap(0);
        x.bend(0, 2);
        CHECK.same("8 and 2 is 8", x.push(8, 0), 174);
        CHECK.same("7 and 2 is 8", x.push(7, 0), 174);
        CHECK.same("5 and 2 is 7", x.push(5, 0), 342);
        x.bend(0, -2);
        CHECK.same("-8 and -2 is -8", x.push(-8, 0), 174);
        CHECK.same("-5 and -2 is -7", x.push(-5, 0), 342);
        CHECK.same("1 and -2 is -1", x.push(1, 0), 985);
    }

    private static void testTurn() {
        LightSails x = new LightSails();
        x.panel(3, -4, 1000, 50, 50);
        x.panel(-2, 5, 100, 10, 20);
        CHECK.same("by x", x.turn(0, 0), 3 * 1500 - 2 * 40);
        CHECK.same("by y", x.turn(0, 1), -4 * 1500 + 5 * 40);
        x.tear(0);
        CHECK.same("by x of one", x.turn(0, 0), -2 * 40);
    }

    private static void testTrim() {
        LightSails x = new LightSails();
        CHECK.same("of nothing", x.trim(0, -1), 0);
        CHECK.same("no flap", x.trim(0, 0), -3);
        int[][] wrong = {{9, 0}, {-9, 0}, {0, -2}, {0, 4}, {0, Integer.MAX_VALUE}};
        for (int[] w : wrong) {
            CHECK.badArgument("trim", () -> x.trim(w[0], w[1]));
        }
        x.panel(-3, 0, 1000, 50, 50);
        x.panel(3, 0, 1000, 50, 50);
        x.flap(0);
        x.flap(1);
        x.bend(0, 1);
        CHECK.same("both bent alike", x.trim(0, -1), 0);
        CHECK.same("the first such", x.trim(0, 0), -2);
        CHECK.same("the first such", x.trim(0, 1), -2);
        x.stuck(0, true);
        CHECK.same("the stuck one stays", x.trim(0, 0), 1);
        CHECK.same("the first with the same press", x.trim(0, 1), -1);
        CHECK.same("no third", x.trim(0, 2), -3);
        CHECK.same("no fourth", x.trim(0, 3), -3);
        CHECK.same("trim bends nothing", x.bend(1, 0), 0);
    }

    private static void testTrimOfEqual() {
        LightSails x = new LightSails();
        x.panel(5, 5, 100, 50, 50);
        for (int i = 0; i < 4; i++) {
            x.panel(0, 0, 10, 50, 50);
            x.flap(i + 1);
            x.bend(i, 2);
        }
        x.stuck(2, true);
        CHECK.same("no flap helps", x.trim(0, -1), 2 * 5 * 150);
        int[] due = {-2, -2, 2, -2};
        for (int i = 0; i < 4; i++) {
            CHECK.same("bend of " + i, x.trim(0, i), due[i]);
        }
    }

    private static void testAgainstModel() {
        Random r = new Random(5);
        for (int run = 0; run < 150; run++) {
            LightSails x = new LightSails();
            Model m = new Model();
            int panels = 1 + r.nextInt(8);
            for (int i = 0; i < panels; i++) {
                int[] p = {r.nextInt(41) - 20, r.nextInt(41) - 20, 1 + r.nextInt(1000), r.nextInt(51), r.nextInt(51)};
                x.panel(p[0], p[1], p[2], p[3], p[4]);
                m.panel(p[0], p[1], p[2], p[3], p[4]);
            }
            for (int f = 0; f < 4 && f < panels; f++) {
                int b = r.nextInt(5) - 2;
                boolean s = r.nextInt(4) == 0;
                x.flap(f);
                m.flap(f);
                x.bend(f, b);
                m.bend(f, b);
                x.stuck(f, s);
                m.stuck(f, s);
            }
            for (int what = -1; what < 4; what++) {
                int slant = r.nextInt(17) - 8;
                CHECK.same("trim", x.trim(slant, what), m.trim(slant, what));
            }
        }
    }
}
