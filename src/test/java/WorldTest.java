import java.util.Random;

/** Promises 19 to 22, 45 and 46: worlds, the fewest days, goals, late ways. */
public final class WorldTest {
    private static final Check CHECK = new Check();

    public static void main(String[] args) {
        testWorld();
        testAngle();
        testLeast();
        testLeastEnds();
        testGoal();
        testLate();
        testWindow();
        testFromEnds();
        testAgainstModel();
        CHECK.end("WorldTest");
    }

    private static void testWorld() {
        LightSails x = new LightSails();
        int[][] wrong = {{-1, 0, 0}, {256, 0, 0}, {0, -1, 0}, {0, 72, 0}, {0, 0, -1}, {0, 0, 11},
            {Integer.MIN_VALUE, 0, 0}};
        for (int[] w : wrong) {
            CHECK.badArgument("world", () -> x.world(w[0], w[1], w[2]));
        }
        CHECK.same("none came", x.count(5), 0);
        CHECK.same("world", x.world(0, 0, 0), 0);
        CHECK.same("world", x.world(255, 71, 10), 1);
        CHECK.same("world", x.world(1, 1, 1), 2);
        CHECK.same("world", x.world(1, 1, 1), 3);
        CHECK.same("a fifth", x.world(1, 1, 1), -1);
        CHECK.badArgument("a wrong fifth", () -> x.world(1, 1, 11));
        CHECK.same("worlds", x.count(5), 4);
    }

    private static void testAngle() {
        LightSails x = new LightSails();
        CHECK.badIndex("no world", () -> x.angle(0, -1));
        x.world(255, 71, 10);
        CHECK.badIndex("no world 1", () -> x.angle(1, 0));
        CHECK.badIndex("no world -1", () -> x.angle(-1, 0));
        CHECK.badArgument("day -1", () -> x.angle(0, -1));
        CHECK.badArgument("day 3001", () -> x.angle(0, 3001));
        CHECK.same("day 0", x.angle(0, 0), 71);
        CHECK.same("day 1", x.angle(0, 1), 9);
        CHECK.same("day 3000", x.angle(0, 3000), (71 + 30000) % 72);
    }

    private static void testLeast() {
        LightSails x = new LightSails();
        CHECK.badIndex("no world", () -> x.least(0, -2));
        x.world(104, 70, 0);
        x.world(105, 70, 0);
        x.world(0, 0, 3);
        CHECK.badIndex("no world -1", () -> x.least(-1, -1));
        CHECK.badArgument("what -2", () -> x.least(0, -2));
        CHECK.badArgument("what 40", () -> x.least(0, 40));
        CHECK.same("met now", x.least(0, -1), 0);
        CHECK.same("no steer", x.least(0, 0), -1);
        CHECK.same("no 39th steer", x.least(0, 39), -1);
        // A day goes on by 3 or more, so a whole round is due; with no panels a step is 1.
        CHECK.same("one more step, once round", x.least(1, -1), 23);
        CHECK.same("a world that is too far", x.least(2, -1), -1);
        CHECK.same("its steer", x.least(2, 0), -1);
    }

    /** Steps that lead out of 0 to 255 can't be; the last day is the 40th. */
    private static void testLeastEnds() {
        LightSails x = new LightSails();
        Model m = new Model();
        for (int i = 0; i < 3; i++) {
            x.panel(0, 0, 1000, 100, 0);
            m.panel(0, 0, 1000, 100, 0);
        }
        CHECK.same("strength", x.count(7), 20);
        int[][] worlds = {{0, 3, 9}, {255, 40, 1}, {4, 50, 0}, {251, 7, 4}};
        for (int[] w : worlds) {
            x.world(w[0], w[1], w[2]);
            m.world(w[0], w[1], w[2]);
        }
        for (int world = 0; world < 4; world++) {
            for (int what = -1; what < 40; what++) {
                CHECK.same("least " + world + " " + what, x.least(world, what), m.least(world, what));
            }
        }
    }

    private static void testGoal() {
        LightSails x = new LightSails();
        CHECK.badIndex("no world 0", () -> x.goal(0));
        CHECK.same("none", x.goal(-1), -1);
        x.world(100, 0, 0);
        x.world(105, 0, 0);
        CHECK.badIndex("no world 2", () -> x.goal(2));
        CHECK.badIndex("no world -2", () -> x.goal(-2));
        CHECK.same("not met without", x.count(10), 0);
        CHECK.same("first", x.goal(0), -1);
        CHECK.same("met", x.count(10), 1);
        CHECK.same("second", x.goal(1), 0);
        CHECK.same("5 away", x.count(10), 0);
        CHECK.same("none again", x.goal(-1), 1);
        CHECK.same("it is none", x.goal(0), -1);
        int[][] ends = {{96, 2, 1}, {104, 70, 1}, {95, 0, 0}, {105, 0, 0}, {100, 3, 0}, {100, 69, 0}};
        for (int[] e : ends) {
            LightSails y = new LightSails();
            y.world(e[0], e[1], 10);
            y.goal(0);
            CHECK.same("met at " + e[0] + " " + e[1], y.count(10), e[2]);
        }
    }

    private static void testLate() {
        LightSails x = new LightSails();
        CHECK.badIndex("no world", () -> x.late(0, 30));
        CHECK.badIndex("no window", () -> x.window(0));
        x.world(100, 0, 3);
        x.world(0, 0, 3);
        CHECK.badIndex("no world 2", () -> x.late(2, 0));
        CHECK.badIndex("no world -1", () -> x.window(-1));
        CHECK.badArgument("21 days", () -> x.late(0, 21));
        CHECK.badArgument("-1 days", () -> x.late(0, -1));
        for (int k = 0; k <= 20; k++) {
            CHECK.same("a world that goes along, " + k, x.late(0, k), k);
            CHECK.same("a world that is never met, " + k, x.late(1, k), -1);
        }
        CHECK.same("window", x.window(0), 0);
        CHECK.same("no window", x.window(1), -1);
        CHECK.same("nothing flew", x.count(0), 0);
    }

    /** Worlds that are met behind more than 40 days alone: then it is best to wait. */
    private static void testWindow() {
        int waits = 0;
        for (int angle = 0; angle < 72; angle++) {
            LightSails x = new LightSails();
            Model m = new Model();
            int rho = (angle % 2 == 0 ? 56 : 140) + angle % 5;
            int speed = angle % 11;
            x.world(rho, angle, speed);
            m.world(rho, angle, speed);
            CHECK.same("window " + angle, x.window(0), m.window(0));
            waits += x.window(0) > 0 ? 1 : 0;
            for (int k = 0; k <= 20; k += 5) {
                CHECK.same("late " + angle + " " + k, x.late(0, k), m.late(0, k));
            }
        }
        CHECK.yes("some wait", waits > 9);
        LightSails y = new LightSails();
        y.world(56, 0, 0);
        CHECK.same("no way now", y.least(0, -1), -1);
        CHECK.same("no way behind 2 days", y.late(0, 2), -1);
        CHECK.same("40 days behind 3", y.late(0, 3), 43);
        CHECK.same("window", y.window(0), 3);
    }

    /** From the ends of rho, where some steers can't be. */
    private static void testFromEnds() {
        Random r = new Random(255);
        for (int run = 0; run < 60; run++) {
            LightSails x = new LightSails();
            Model m = new Model();
            for (int i = r.nextInt(3); i >= 0; i--) {
                int area = 1 + r.nextInt(1000);
                x.panel(0, 0, area, 100, 0);
                m.panel(0, 0, area, 100, 0);
            }
            String text = run % 3 == 0 ? "in if 1=1;" : "out if 1=1;";
            Texts.tell(x, text);
            int[] five = Texts.five(text, 0);
            m.feed(five[0], five[1], five[2], five[3], five[4]);
            m.rules(text.length());
            CHECK.same("fly", x.fly(160), m.fly(160));
            int rho = run % 3 == 0 ? r.nextInt(60) : 255 - r.nextInt(60);
            int[] w = {rho, r.nextInt(72), r.nextInt(11)};
            x.world(w[0], w[1], w[2]);
            m.world(w[0], w[1], w[2]);
            for (int what = -1; what < 40; what += 1 + r.nextInt(3)) {
                CHECK.same("least", x.least(0, what), m.least(0, what));
            }
        }
    }

    private static void testAgainstModel() {
        Random r = new Random(19);
        for (int run = 0; run < 60; run++) {
            LightSails x = new LightSails();
            Model m = new Model();
            int area = 1 + r.nextInt(1000);
            x.panel(0, 0, area, 100, 0);
            m.panel(0, 0, area, 100, 0);
            int[] w = {r.nextInt(256), r.nextInt(72), r.nextInt(11)};
            x.world(w[0], w[1], w[2]);
            m.world(w[0], w[1], w[2]);
            for (int flown = 0; flown < 3; flown++) {
                for (int what = -1; what < 40; what += 1 + r.nextInt(6)) {
                    CHECK.same("least", x.least(0, what), m.least(0, what));
                }
                int k = r.nextInt(21);
                CHECK.same("late", x.late(0, k), m.late(0, k));
                int days = r.nextInt(30);
                CHECK.same("fly", x.fly(days), m.fly(days));
            }
        }
    }
}
