/** Promises 2 to 8: strips, piles, creases. */
public final class StripTest {
    private static final Check CHECK = new Check();

    public static void main(String[] args) {
        testEdges();
        testRefusedStrip();
        testWrongCalls();
        testTold();
        for (int parts = 2; parts <= 8; parts++) {
            for (int up = 0; up < 1 << (parts - 1); up++) {
                testStrip(parts, up);
            }
        }
        CHECK.end("StripTest");
    }

    private static void testEdges() {
        LightSails x = new LightSails();
        int[][] wrong = {{1, 0}, {0, 0}, {-1, 0}, {9, 0}, {2, 2}, {2, -1}, {8, 128}, {8, 256}, {3, 4}, {7, 64},
            {8, Integer.MIN_VALUE}, {Integer.MAX_VALUE, 0}, {Integer.MIN_VALUE, 0}, {34, 0}};
        for (int[] row : wrong) {
            CHECK.badArgument("strip " + row[0] + " " + row[1], () -> x.strip(row[0], row[1]));
        }
        CHECK.same("no layer of no strip", x.layer(0), -1);
        CHECK.same("strip 2 up", x.strip(2, 1), 1);
        CHECK.same("its layer 1", x.layer(1), 1);
        CHECK.same("strip 2 down", x.strip(2, 0), 1);
        CHECK.same("its layer 0", x.layer(0), 1);
        CHECK.same("its layer -1", x.layer(-1), -1);
        CHECK.same("its layer 2", x.layer(2), -1);
        CHECK.same("its layer, far out", x.layer(Integer.MIN_VALUE), -1);
        CHECK.same("strip 8, all up", x.strip(8, 127), Model.pilesOf(8, 127).length);
    }

    private static void testRefusedStrip() {
        LightSails x = new LightSails();
        x.strip(3, 3);
        x.open(0);
        CHECK.badArgument("strip 3 4", () -> x.strip(3, 4));
        CHECK.same("the open crease stays", x.count(14), 1);
        CHECK.same("the pile stays", x.layer(1), 2);
        CHECK.same("a new strip is shut", x.strip(3, 3), 2);
        CHECK.same("open creases", x.count(14), 0);
    }

    private static void testWrongCalls() {
        LightSails x = new LightSails();
        CHECK.badState("lies", () -> Check.number(x.lies(-1)));
        CHECK.badState("clear", () -> Check.number(x.clear(0)));
        CHECK.badState("open", () -> x.open(0));
        CHECK.badState("orders", x::orders);
        CHECK.badState("safe", () -> x.safe(0));
        x.strip(4, 1);
        for (int crease : new int[] {-1, 3, 31, 32, Integer.MIN_VALUE, Integer.MAX_VALUE}) {
            CHECK.badIndex("clear " + crease, () -> Check.number(x.clear(crease)));
            CHECK.badIndex("open " + crease, () -> x.open(crease));
        }
        for (int k : new int[] {-1, 3, Integer.MIN_VALUE, Integer.MAX_VALUE}) {
            CHECK.same("safe " + k, x.safe(k), -1);
        }
        // Parts 0 1 2 3, a part twice, a part that is none, a part too many, and bits above.
        CHECK.no("lies", x.lies(0 | 1 << 3 | 2 << 6 | 3 << 9));
        int[] none = {1 << 3 | 1 << 6 | 3 << 9, 1 << 3 | 2 << 6 | 4 << 9, 1 << 3 | 2 << 6 | 3 << 9 | 4 << 12,
            1 << 3 | 2 << 6 | 3 << 9 | 1 << 31, -1, 0, 7 << 9 | 1 << 3 | 2 << 6};
        for (int pile : none) {
            CHECK.badArgument("lies " + pile, () -> Check.number(x.lies(pile)));
        }
        x.strip(8, 85);
        int straight = 16434824;
        CHECK.yes("eight in a row", x.lies(straight));
        CHECK.badArgument("eight and a bit more", () -> Check.number(x.lies(straight | 1 << 24)));
        CHECK.badArgument("eight and the sign", () -> Check.number(x.lies(straight | 1 << 31)));
    }

    /** A spiral opens from its outer end alone. */
    private static void testTold() {
        LightSails x = new LightSails();
        CHECK.same("strip", x.strip(3, 3), 2);
        CHECK.yes("0 is clear", x.clear(0));
        CHECK.no("1 is not", x.clear(1));
        CHECK.same("1 stays shut", x.open(1), 0);
        CHECK.same("open creases", x.count(14), 0);
        CHECK.same("one order", x.orders(), 1);
        CHECK.same("open 0", x.open(0), 1);
        CHECK.same("open 0 again", x.open(0), -1);
        CHECK.badArgument("clear of an open one", () -> Check.number(x.clear(0)));
        CHECK.same("open 1", x.open(1), 1);
        CHECK.same("orders of none", x.orders(), 1);
        CHECK.same("safe of none", x.safe(0), -1);
    }

    private static void testStrip(int parts, int up) {
        LightSails x = new LightSails();
        Model m = new Model();
        String name = "strip " + parts + " " + up;
        CHECK.same(name, x.strip(parts, up), m.strip(parts, up));
        for (int k = -1; k <= parts; k++) {
            CHECK.same(name + " layer " + k, x.layer(k), m.layer(k));
        }
        for (int[] row : parts <= 6 ? Model.permutations(parts).toArray(new int[0][]) : Model.pilesOf(parts, up)) {
            int told = 0;
            for (int k = 0; k < parts; k++) {
                told |= row[k] << (3 * k);
            }
            int pile = told;
            CHECK.same(name + " lies " + pile, Check.number(x.lies(pile)), Check.number(m.lies(pile)));
        }
        testOpening(name, x, m, parts);
    }

    /** Opens the last clear crease each time, so that other orders than the first are seen. */
    private static void testOpening(String name, LightSails x, Model m, int parts) {
        for (int opened = 0; opened < parts; opened++) {
            CHECK.same(name + " orders", x.orders(), m.orders());
            int last = -1;
            for (int crease = 0; crease < parts - 1; crease++) {
                CHECK.same(name + " safe " + crease, x.safe(crease), m.safe(crease));
                if (!m.openCreases[crease]) {
                    CHECK.same(name + " clear " + crease, Check.number(x.clear(crease)), Check.number(m.clear(crease)));
                    last = m.clear(crease) ? crease : last;
                }
            }
            if (last >= 0) {
                CHECK.same(name + " open " + last, x.open(last), m.open(last));
            }
        }
    }
}
