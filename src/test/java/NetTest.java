import java.util.Random;

/** Promises 35 to 42: nets of strings. */
public final class NetTest {
    private static final Check CHECK = new Check();

    public static void main(String[] args) {
        testKnot();
        testPull();
        testString();
        testEmptyNet();
        testOneString();
        testTwoStrings();
        testFreeLine();
        testHeldPair();
        testEaseOfMany();
        testFreeKnots();
        testCut();
        testAgainstSimplex();
        testGreatNumbers();
        CHECK.end("NetTest");
    }

    private static void testKnot() {
        LightSails x = new LightSails();
        int[][] wrong = {{-6, 0}, {6, 0}, {0, -6}, {0, 6}, {Integer.MIN_VALUE, 0}};
        for (int[] w : wrong) {
            CHECK.badArgument("knot", () -> x.knot(w[0], w[1], true));
        }
        CHECK.same("none came", x.count(15), 0);
        for (int i = 0; i < 6; i++) {
            CHECK.same("knot " + i, x.knot(i % 2 == 0 ? -5 : 5, i % 3 == 0 ? -5 : 5, i % 2 == 0), i);
        }
        CHECK.same("a seventh", x.knot(0, 0, true), -1);
        CHECK.badArgument("a wrong seventh", () -> x.knot(6, 0, true));
        CHECK.same("knots", x.count(15), 6);
    }

    private static void pull(LightSails x, int knot, int px, int py) {
        x.pull(knot, px, py);
    }

    private static void testPull() {
        LightSails x = new LightSails();
        CHECK.badIndex("no knot", () -> { x.pull(0, 101, 0); return 0; });
        x.knot(0, 0, false);
        CHECK.badIndex("no knot 1", () -> { x.pull(1, 0, 0); return 0; });
        CHECK.badIndex("no knot -1", () -> { x.pull(-1, 0, 0); return 0; });
        int[][] wrong = {{101, 0}, {-101, 0}, {0, 101}, {0, -101}};
        for (int[] w : wrong) {
            CHECK.badArgument("pull", () -> { x.pull(0, w[0], w[1]); return 0; });
        }
        CHECK.yes("no pull came", x.hangs());
        pull(x, 0, 0, 1);
        CHECK.no("a pull, no string", x.hangs());
        pull(x, 0, 100, -100);
        CHECK.no("a pull, no string", x.hangs());
        pull(x, 0, 0, 0);
        CHECK.yes("no pull", x.hangs());
        x.knot(1, 1, true);
        pull(x, 1, 100, -100);
        CHECK.yes("a held knot bears all", x.hangs());
    }

    private static void testString() {
        LightSails x = new LightSails();
        CHECK.badIndex("no knots", () -> x.string(0, 0));
        x.knot(0, 0, true);
        x.knot(0, 0, false);
        x.knot(1, 0, false);
        x.knot(2, 0, false);
        x.knot(3, 1, false);
        CHECK.badIndex("no knot 5", () -> x.string(0, 5));
        CHECK.badIndex("no knot 5", () -> x.string(5, 5));
        CHECK.badIndex("no knot -1", () -> x.string(-1, 0));
        CHECK.badArgument("one knot", () -> x.string(2, 2));
        CHECK.same("one place", x.string(0, 1), -2);
        CHECK.same("string", x.string(0, 2), 0);
        CHECK.same("again", x.string(0, 2), -3);
        CHECK.same("again, the other way", x.string(2, 0), -3);
        CHECK.same("string", x.string(2, 1), 1);
        CHECK.same("string", x.string(3, 0), 2);
        CHECK.same("string", x.string(3, 1), 3);
        CHECK.same("string", x.string(3, 2), 4);
        CHECK.same("string", x.string(4, 0), 5);
        CHECK.same("a seventh", x.string(4, 1), -1);
        CHECK.same("a seventh at one place", x.string(0, 1), -1);
        CHECK.same("a seventh again", x.string(0, 2), -1);
        CHECK.badArgument("one knot", () -> x.string(2, 2));
        CHECK.same("strings", x.count(16), 6);
    }

    private static void ease(LightSails x, long above, long below) {
        CHECK.same("above", x.ease(0), above);
        CHECK.same("below", x.ease(1), below);
    }

    private static void testEmptyNet() {
        LightSails x = new LightSails();
        CHECK.yes("nothing hangs", x.hangs());
        ease(x, 0, 1);
        CHECK.badArgument("ease 2", () -> x.ease(2));
        CHECK.badArgument("ease -1", () -> x.ease(-1));
        CHECK.badIndex("no string", () -> Check.number(x.slack(0)));
        CHECK.badIndex("no string", () -> Check.number(x.taut(0)));
        CHECK.badIndex("no string", () -> Check.number(x.slack(-1)));
        CHECK.badIndex("no string", () -> Check.number(x.taut(-1)));
        x.knot(0, 0, false);
        pull(x, 0, 1, 0);
        ease(x, -1, -1);
        CHECK.badArgument("ease 2", () -> x.ease(2));
    }

    private static void testOneString() {
        LightSails x = new LightSails();
        x.knot(0, 5, true);
        x.knot(0, 0, false);
        x.string(1, 0);
        CHECK.yes("loose", x.hangs());
        CHECK.yes("loose", x.slack(0));
        CHECK.no("loose", x.taut(0));
        ease(x, 0, 1);
        pull(x, 1, 0, -10);
        CHECK.yes("bears", x.hangs());
        CHECK.no("bears", x.slack(0));
        CHECK.yes("bears", x.taut(0));
        ease(x, 2, 1);
        pull(x, 1, 0, -7);
        ease(x, 7, 5);
        pull(x, 1, 0, 7);
        CHECK.no("it can't push", x.hangs());
        CHECK.no("it can't push", x.slack(0));
        CHECK.no("it can't push", x.taut(0));
        ease(x, -1, -1);
        pull(x, 1, 1, -7);
        CHECK.no("not along it", x.hangs());
        CHECK.badIndex("no string 1", () -> Check.number(x.slack(1)));
        CHECK.badIndex("no string 1", () -> Check.number(x.taut(1)));
    }

    private static void testTwoStrings() {
        LightSails x = new LightSails();
        x.knot(-3, 4, true);
        x.knot(3, 4, true);
        x.knot(0, 0, false);
        x.string(2, 0);
        x.string(2, 1);
        pull(x, 2, 0, -4);
        ease(x, 1, 1);
        pull(x, 2, 1, -4);
        // 3 (b - a) = -1 and 4 (a + b) = 4: a is 2/3, b is 1/3.
        ease(x, 1, 1);
        CHECK.no("both bear", x.slack(0) || x.slack(1));
        pull(x, 2, 3, -4);
        CHECK.yes("one bears", x.taut(0) && !x.taut(1) && x.slack(1) && !x.slack(0));
        pull(x, 2, 4, -4);
        CHECK.no("beyond", x.hangs());
    }

    /** A free knot on a line between two held ones: both strings may grow at will. */
    private static void testFreeLine() {
        LightSails x = new LightSails();
        x.knot(-2, 0, true);
        x.knot(3, 0, true);
        x.knot(0, 0, false);
        x.string(0, 2);
        x.string(2, 1);
        CHECK.yes("slack", x.slack(0) && x.slack(1));
        CHECK.yes("taut", x.taut(0) && x.taut(1));
        ease(x, 0, 1);
        pull(x, 2, 7, 0);
        CHECK.yes("one is taut always", !x.slack(0) && x.slack(1) && x.taut(0) && x.taut(1));
        ease(x, 7, 2);
        pull(x, 2, 0, 1);
        CHECK.no("across", x.hangs());
        CHECK.no("not taut then", x.taut(0));
    }

    private static void testHeldPair() {
        LightSails x = new LightSails();
        x.knot(-2, 0, true);
        x.knot(3, 0, true);
        x.string(0, 1);
        CHECK.yes("any tension", x.slack(0) && x.taut(0));
        x.knot(0, 0, false);
        pull(x, 2, 0, 1);
        CHECK.no("but for the free knot", x.slack(0) || x.taut(0));
    }

    /** Four strings to one knot: the longest way bears with the least tension. */
    private static void testEaseOfMany() {
        LightSails x = new LightSails();
        x.knot(0, 1, true);
        x.knot(0, 5, true);
        x.knot(0, 3, true);
        x.knot(0, -2, true);
        x.knot(0, 0, false);
        for (int i = 0; i < 4; i++) {
            x.string(i, 4);
        }
        pull(x, 4, 0, -12);
        ease(x, 12, 5);
        for (int i = 0; i < 4; i++) {
            CHECK.yes("slack and taut", x.slack(i) && x.taut(i));
        }
        pull(x, 4, 0, 12);
        ease(x, 6, 1);
        CHECK.yes("the lower bears", !x.slack(3) && x.taut(3));
        CHECK.yes("others may help it", x.taut(0) && x.slack(0));
    }

    /** All six knots free, three of them on a line: strings there are not independent. */
    private static void testFreeKnots() {
        LightSails x = new LightSails();
        Model m = new Model();
        int[][] spots = {{-2, 0}, {0, 0}, {3, 0}, {0, 4}, {5, 5}, {-5, 2}};
        for (int[] s : spots) {
            x.knot(s[0], s[1], false);
            m.knot(s[0], s[1], false);
        }
        int[][] strings = {{0, 1}, {1, 2}, {0, 2}, {1, 3}, {3, 4}, {4, 5}};
        for (int[] s : strings) {
            x.string(s[0], s[1]);
            m.string(s[0], s[1]);
        }
        compare(x, m);
        x.pull(0, -12, 0);
        m.pull(0, -12, 0);
        compare(x, m);
        x.pull(2, 12, 0);
        m.pull(2, 12, 0);
        compare(x, m);
        // Drawn apart from end to end: the long string bears with 12 by 5.
        ease(x, 12, 5);
        CHECK.yes("or both short ones", x.slack(2) && x.taut(0) && x.taut(1));
    }

    private static void testCut() {
        LightSails x = new LightSails();
        CHECK.same("nothing to cut", x.cut(), 0);
        x.knot(0, 0, false);
        x.knot(1, 1, false);
        x.string(0, 1);
        pull(x, 0, 5, 5);
        CHECK.no("it falls", x.hangs());
        CHECK.same("cut", x.cut(), 1);
        CHECK.same("knots", x.count(15), 0);
        CHECK.same("strings", x.count(16), 0);
        CHECK.yes("nothing hangs", x.hangs());
        CHECK.same("a new first knot", x.knot(2, 2, false), 0);
        CHECK.yes("its pull is 0", x.hangs());
        CHECK.badIndex("the string went", () -> Check.number(x.slack(0)));
        x.knot(1, 1, false);
        CHECK.same("a new string", x.string(0, 1), 0);
    }

    private static void compare(LightSails x, Model m) {
        CHECK.same("hangs", Check.number(x.hangs()), Check.number(m.hangs()));
        CHECK.same("above", x.ease(0), m.ease(0));
        CHECK.same("below", x.ease(1), m.ease(1));
        for (int s = 0; s < m.strings.size(); s++) {
            CHECK.same("slack " + s, Check.number(x.slack(s)), Check.number(m.slack(s)));
            CHECK.same("taut " + s, Check.number(x.taut(s)), Check.number(m.taut(s)));
        }
    }

    /** Pulls are made from tensions, by fractions where they come out whole, so that most nets hang. */
    private static void testAgainstSimplex() {
        Random r = new Random(35);
        int hanging = 0;
        for (int run = 0; run < 4000; run++) {
            LightSails x = new LightSails();
            Model m = new Model();
            int size = 1 + r.nextInt(5);
            int knots = 2 + r.nextInt(5);
            for (int i = 0; i < knots; i++) {
                int[] k = {r.nextInt(2 * size + 1) - size, r.nextInt(2 * size + 1) - size, r.nextInt(2)};
                x.knot(k[0], k[1], k[2] == 1);
                m.knot(k[0], k[1], k[2] == 1);
            }
            for (int i = 0; i < 12; i++) {
                int a = r.nextInt(knots);
                int b = r.nextInt(knots);
                if (a != b) {
                    CHECK.same("string", x.string(a, b), m.string(a, b));
                }
            }
            int[] tensions = new int[6];
            for (int i = 0; i < 6; i++) {
                tensions[i] = Math.max(0, r.nextInt(12) - 3);
            }
            int by = 1 + r.nextInt(3);
            for (int i = 0; i < knots; i++) {
                int[] p = pullAgainst(m, i, tensions, by);
                x.pull(i, p[0], p[1]);
                m.pull(i, p[0], p[1]);
            }
            compare(x, m);
            hanging += x.hangs() ? 1 : 0;
        }
        CHECK.yes("many hang: " + hanging, hanging > 1500);
    }

    private static int[] pullAgainst(Model m, int knot, int[] tensions, int by) {
        int[] pull = new int[2];
        for (int s = 0; s < m.strings.size(); s++) {
            int[] string = m.strings.get(s);
            if (string[0] == knot || string[1] == knot) {
                int[] to = m.knots.get(string[0] == knot ? string[1] : string[0]);
                pull[0] -= tensions[s] * (to[0] - m.knots.get(knot)[0]);
                pull[1] -= tensions[s] * (to[1] - m.knots.get(knot)[1]);
            }
        }
        pull[0] = Math.max(-100, Math.min(100, pull[0] / by));
        pull[1] = Math.max(-100, Math.min(100, pull[1] / by));
        return pull;
    }

    /** Three free knots on six strings, far apart, with great pulls: determinants are as great as can be. */
    private static void testGreatNumbers() {
        Random r = new Random(41);
        int hanging = 0;
        for (int run = 0; run < 3000; run++) {
            LightSails x = new LightSails();
            Model m = new Model();
            int[][] spots = {{-5, -5}, {5, 4}, {-5, 5}, {4, -5}, {-4, 0}, {1, 5}};
            for (int i = 0; i < 6; i++) {
                int kx = r.nextInt(3) == 0 ? r.nextInt(11) - 5 : spots[i][0];
                int ky = r.nextInt(3) == 0 ? r.nextInt(11) - 5 : spots[i][1];
                x.knot(kx, ky, i < 3);
                m.knot(kx, ky, i < 3);
            }
            for (int i = 0; i < 12; i++) {
                int a = 3 + r.nextInt(3);
                int b = r.nextInt(6);
                if (a != b) {
                    x.string(a, b);
                    m.string(a, b);
                }
            }
            for (int i = 3; i < 6; i++) {
                // Beside whole tensions, so that fractions come out.
                int[] p = pullAgainst(m, i, new int[] {4, 5, 6, 5, 4, 6}, 1);
                p[0] = Math.max(-100, Math.min(100, p[0] + r.nextInt(7) - 3));
                p[1] = Math.max(-100, Math.min(100, p[1] + r.nextInt(7) - 3));
                x.pull(i, p[0], p[1]);
                m.pull(i, p[0], p[1]);
            }
            compare(x, m);
            hanging += x.ease(1) > 1000 ? 1 : 0;
        }
        CHECK.yes("some hang by odd fractions: " + hanging, hanging > 100);
    }
}
