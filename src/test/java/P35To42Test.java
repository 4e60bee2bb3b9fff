/** Promises 35 to 42, sentence by sentence: knots, pulls, strings; stands of the net. */
public final class P35To42Test {
    public static void main(String[] args) throws IllegalAccessException {
        Sentences.run(P35To42Test.class);
    }

    private static LightSails knots(int count) {
        LightSails x = new LightSails();
        for (int i = 0; i < count; i++) {
            x.knot(i - 3, i * i % 5, true);
        }
        return x;
    }

    /** Six strings on six knots. */
    private static LightSails full() {
        LightSails x = knots(6);
        for (int i = 0; i < 6; i++) {
            x.string(i, (i + 1) % 6);
        }
        return x;
    }

    /** A free knot that hangs by one string from a held one. */
    private static LightSails hung(int heldX, int heldY, int freeX, int freeY) {
        LightSails x = new LightSails();
        x.knot(heldX, heldY, true);
        x.knot(freeX, freeY, false);
        x.string(0, 1);
        return x;
    }

    private static long pull(LightSails x, int knot, int px, int py) {
        x.pull(knot, px, py);
        return 0;
    }

    private static void ease(Check check, LightSails x, long above, long below) {
        check.same("above", x.ease(0), above);
        check.same("below", x.ease(1), below);
    }

    @Says({"A KNOT: its number;", "A NET has KNOTS, numbered from 0 on, 6 at most: at x, y (-5 to 5), HELD or not,"})
    static void p35EndsOfPlace(Check check) {
        Ends.ofArgument(check, "x", -5, 5, v -> new LightSails().knot(v, 0, true));
        Ends.ofArgument(check, "y", -5, 5, v -> new LightSails().knot(0, v, false));
    }

    @Says("-1: there are 6.")
    static void p35SixKnots(Check check) {
        LightSails x = new LightSails();
        check.badArgument("a refused one", () -> x.knot(6, 0, true));
        check.same("is not there", x.count(15), 0);
        for (int i = 0; i < 6; i++) {
            check.same("knot", x.knot(0, 0, i % 2 == 0), i);
            check.same("knots", x.count(15), i + 1);
        }
        check.same("a seventh", x.knot(1, 1, true), -1);
        check.same("knots", x.count(15), 6);
        check.badIndex("no seventh", () -> pull(x, 6, 0, 0));
        check.same("the last is where it was", x.string(0, 5), -2);
        // The exception is told for what is none such, full or not.
        check.badArgument("a wrong seventh", () -> x.knot(0, -6, true));
    }

    @Says({"PULL of a KNOT.", "with a PULL x, y (-100 to 100; 0 at first);"})
    static void p36EndsOfPull(Check check) {
        Ends.ofArgument(check, "x", -100, 100, v -> pull(knots(1), 0, v, 0));
        Ends.ofArgument(check, "y", -100, 100, v -> pull(knots(1), 0, 0, v));
        LightSails x = new LightSails();
        x.knot(0, 0, false);
        check.yes("0 at first", x.hangs());
        pull(x, 0, 0, 1);
        check.no("drawn", x.hangs());
        check.badArgument("a refused one", () -> pull(x, 0, 0, 101));
        check.badArgument("a refused one", () -> pull(x, 0, -101, 0));
        check.no("drawn still", x.hangs());
        pull(x, 0, 0, 0);
        check.yes("not drawn any more: the latest counts", x.hangs());
        check.badArgument("a refused one", () -> pull(x, 0, 1, 101));
        check.yes("it stays so", x.hangs());
    }

    @Says("IndexOutOfBoundsException: no such KNOT (so below).")
    static void p36NoSuchKnot(Check check) {
        check.badIndex("none", () -> pull(new LightSails(), 0, 0, 0));
        Ends.ofIndex(check, "knot", 1, v -> pull(knots(1), v, 0, 0));
        Ends.ofIndex(check, "knot", 6, v -> pull(knots(6), v, 0, 0));
        // No such knot comes ahead of the pull, as the face has them.
        check.badIndex("no knot and no pull", () -> pull(knots(1), 1, 101, 0));
    }

    @Says({"A STRING: its number; -1: there are 6;", "and STRINGS, numbered from 0 on, 6 at most,"})
    static void p37SixStrings(Check check) {
        LightSails x = knots(6);
        for (int i = 0; i < 6; i++) {
            check.same("string", x.string(i, (i + 1) % 6), i);
            check.same("strings", x.count(16), i + 1);
        }
        check.same("a seventh", x.string(0, 2), -1);
        check.same("strings", x.count(16), 6);
        check.badIndex("no seventh", () -> Check.number(x.slack(6)));
    }

    @Says({"-2: they lie at one place; -3: there is one between them (the first of these).",
        "each between two KNOTS that do not lie at one place (of each two one at most)."})
    static void p37OnePlaceAndOneBetween(Check check) {
        LightSails x = new LightSails();
        x.knot(2, 3, true);
        x.knot(2, 3, false);
        x.knot(2, 4, false);
        x.knot(3, 3, false);
        check.same("one place", x.string(0, 1), -2);
        check.same("one place, the other way", x.string(1, 0), -2);
        check.same("x alike alone", x.string(0, 2), 0);
        check.same("y alike alone", x.string(3, 0), 1);
        check.same("again", x.string(0, 2), -3);
        check.same("again, the other way", x.string(2, 0), -3);
        check.same("again, the other way", x.string(0, 3), -3);
        check.same("strings", x.count(16), 2);
        check.same("others at the same place", x.string(1, 2), 2);
        check.same("one place still", x.string(0, 1), -2);
    }

    @Says("(the first of these)")
    static void p37FullIsTheFirst(Check check) {
        LightSails x = new LightSails();
        x.knot(0, 0, true);
        x.knot(0, 0, true);
        for (int i = 1; i <= 4; i++) {
            x.knot(i, 1, true);
        }
        for (int i = 2; i <= 5; i++) {
            x.string(0, i);
        }
        x.string(1, 2);
        check.same("five: one place", x.string(0, 1), -2);
        check.same("five: one between them", x.string(0, 2), -3);
        x.string(1, 3);
        check.same("six: one place", x.string(0, 1), -1);
        check.same("six: one between them", x.string(0, 2), -1);
    }

    @Says("IllegalArgumentException: they are one KNOT.")
    static void p37OneKnot(Check check) {
        LightSails x = knots(6);
        for (int knot = 0; knot < 6; knot++) {
            int one = knot;
            check.badArgument("one knot", () -> x.string(one, one));
        }
        check.same("no string came", x.count(16), 0);
        check.badArgument("one knot of a full net", () -> full().string(2, 2));
    }

    @Says("int string(int knot, int other) throws IndexOutOfBoundsException, IllegalArgumentException")
    static void p37NoSuchKnot(Check check) {
        check.badIndex("none", () -> new LightSails().string(0, 1));
        Ends.ofIndex(check, "first knot", 6, v -> knots(6).string(v, 1));
        Ends.ofIndex(check, "second knot", 6, v -> knots(6).string(1, v));
        check.badIndex("a knot that is not there yet", () -> knots(2).string(0, 2));
        // No such knot comes ahead of one knot, as the face has them.
        check.badIndex("one knot that is none", () -> knots(1).string(1, 1));
        check.badIndex("one knot that is none", () -> knots(1).string(-1, -1));
        check.badIndex("no knot of a full net", () -> full().string(0, 6));
    }

    @Says({"Whether the NET HANGS.", "The NET HANGS, if there is a STAND."})
    static void p38EmptyNet(Check check) {
        LightSails x = new LightSails();
        check.yes("no knots", x.hangs());
        x.knot(0, 0, false);
        check.yes("a free knot without pull", x.hangs());
        x.knot(1, 0, false);
        x.string(0, 1);
        check.yes("two, and a loose string", x.hangs());
        pull(x, 0, -1, 0);
        check.no("one is drawn", x.hangs());
        pull(x, 1, 1, 0);
        check.yes("both are drawn apart", x.hangs());
        pull(x, 1, 2, 0);
        check.no("one is drawn more", x.hangs());
        pull(x, 0, 1, 0);
        pull(x, 1, -1, 0);
        check.no("strings only pull", x.hangs());
    }

    @Says("so that for each KNOT that is not HELD its PULL and, for each STRING there, TENSION times the way to its other "
        + "KNOT (x and y) are together 0.")
    static void p38HeldKnotsBearAll(Check check) {
        LightSails x = new LightSails();
        x.knot(0, 0, true);
        pull(x, 0, 100, -100);
        check.yes("a held one is drawn", x.hangs());
        x.knot(1, 0, false);
        pull(x, 1, 0, 1);
        check.no("a free one is drawn, beside its string", x.hangs());
        pull(x, 1, 1, 0);
        check.no("no string yet", x.hangs());
        check.same("string", x.string(0, 1), 0);
        check.yes("along the string", x.hangs());
        pull(x, 1, 0, 1);
        check.no("across the string", x.hangs());
        pull(x, 1, 1, 0);
        check.yes("along the string", x.hangs());
        pull(x, 1, 1, 1);
        check.no("along and across", x.hangs());
    }

    @Says("so that for each KNOT that is not HELD its PULL and, for each STRING there, TENSION times the way to its other "
        + "KNOT (x and y) are together 0.")
    static void p38StringsOnOneLine(Check check) {
        // Two strings up one line bear what is drawn down it, but nothing across.
        LightSails x = new LightSails();
        x.knot(0, 0, false);
        x.knot(0, 1, true);
        x.knot(0, 2, true);
        x.string(0, 1);
        x.string(0, 2);
        for (int across = -1; across <= 1; across++) {
            pull(x, 0, across, -4);
            check.same("across " + across, Check.number(x.hangs()), across == 0 ? 1 : 0);
        }
    }

    @Says("so that for each KNOT that is not HELD its PULL and, for each STRING there, TENSION times the way to its other "
        + "KNOT (x and y) are together 0.")
    static void p38SixFreeKnots(Check check) {
        // A ring of six with nothing to hold it: drawn outwards evenly, all strings bear alike.
        int[][] spots = {{2, 0}, {1, 2}, {-1, 2}, {-2, 0}, {-1, -2}, {1, -2}};
        LightSails x = new LightSails();
        for (int[] s : spots) {
            x.knot(s[0], s[1], false);
        }
        for (int i = 0; i < 6; i++) {
            x.string(i, (i + 1) % 6);
        }
        check.yes("no pulls", x.hangs());
        ease(check, x, 0, 1);
        for (int i = 0; i < 6; i++) {
            int[] before = spots[(i + 5) % 6];
            int[] behind = spots[(i + 1) % 6];
            pull(x, i, 7 * (2 * spots[i][0] - before[0] - behind[0]), 7 * (2 * spots[i][1] - before[1] - behind[1]));
        }
        check.yes("drawn by 7 each", x.hangs());
        ease(check, x, 42, 1);
        for (int i = 0; i < 6; i++) {
            check.yes("each bears", x.taut(i) && !x.slack(i));
        }
        pull(x, 5, 0, 0);
        check.no("one is not drawn", x.hangs());
    }

    @Says({"Whether a STRING can be SLACK (not, if the NET does not HANG).",
        "A STRING can be SLACK, if there is one in which its TENSION is 0,"})
    static void p39Slack(Check check) {
        LightSails x = hung(0, 5, 0, 0);
        check.yes("no pull", x.slack(0));
        pull(x, 1, 0, -1);
        check.no("it bears", x.slack(0));
        pull(x, 1, 0, 1);
        check.no("the net does not hang", x.slack(0));
        // Another string is not to blame, but the net does not hang.
        x.knot(4, 4, true);
        x.knot(5, 4, true);
        x.string(2, 3);
        check.no("a string elsewhere", x.slack(1));
        pull(x, 1, 0, 0);
        check.yes("it hangs again", x.slack(1));
    }

    @Says("IndexOutOfBoundsException: no such STRING (so below).")
    static void p39NoSuchString(Check check) {
        check.badIndex("none", () -> Check.number(new LightSails().slack(0)));
        check.badIndex("knots alone", () -> Check.number(knots(6).slack(0)));
        Ends.ofIndex(check, "string", 1, v -> Check.number(hung(0, 5, 0, 0).slack(v)));
        Ends.ofIndex(check, "string", 6, v -> Check.number(full().slack(v)));
    }

    @Says({"Whether a STRING can be TAUT.", "and TAUT, if there is one in which it is above 0.",
        "A STAND gives each STRING a TENSION (any fraction, 0 at least),"})
    static void p40Taut(Check check) {
        LightSails x = hung(0, 5, 0, 0);
        check.no("no pull", x.taut(0));
        pull(x, 1, 0, -1);
        check.yes("it bears by 1/5", x.taut(0));
        pull(x, 1, 0, 1);
        check.no("the net does not hang", x.taut(0));
        LightSails held = full();
        for (int i = 0; i < 6; i++) {
            check.yes("between held ones, any tension", held.taut(i) && held.slack(i));
        }
        // A free knot between two held ones on a line: both may be drawn without end.
        LightSails line = new LightSails();
        line.knot(-5, 0, true);
        line.knot(5, 0, true);
        line.knot(0, 0, false);
        line.string(0, 2);
        line.string(2, 1);
        check.yes("both together", line.taut(0) && line.taut(1) && line.slack(0) && line.slack(1));
        LightSails bent = new LightSails();
        bent.knot(-5, 0, true);
        bent.knot(5, 0, true);
        bent.knot(0, 1, false);
        bent.string(0, 2);
        bent.string(2, 1);
        check.no("not off the line", bent.taut(0) || bent.taut(1));
    }

    @Says("boolean taut(int string) throws IndexOutOfBoundsException")
    static void p40NoSuchString(Check check) {
        check.badIndex("none", () -> Check.number(new LightSails().taut(0)));
        check.badIndex("knots alone", () -> Check.number(knots(6).taut(0)));
        Ends.ofIndex(check, "string", 1, v -> Check.number(hung(0, 5, 0, 0).taut(v)));
        Ends.ofIndex(check, "string", 6, v -> Check.number(full().taut(v)));
    }

    @Says({"EASE: 0 what is above the line, 1 below it; NONE: the NET does not HANG.",
        "IllegalArgumentException: another what."})
    static void p41WhatIsAsked(Check check) {
        LightSails x = hung(0, 5, 0, 0);
        Ends.ofArgument(check, "what", 0, 1, v -> x.ease(v));
        pull(x, 1, 0, 1);
        ease(check, x, -1, -1);
        Ends.ofArgument(check, "what, though it does not hang", 0, 1, v -> x.ease(v));
    }

    @Says("EASE of the NET: the least sum of TENSIONS of all STANDS, as a fraction in its lowest terms.")
    static void p41LowestTerms(Check check) {
        ease(check, new LightSails(), 0, 1);
        ease(check, full(), 0, 1);
        LightSails x = hung(0, 5, 0, 0);
        ease(check, x, 0, 1);
        int[][] rows = {{1, 1, 5}, {4, 4, 5}, {5, 1, 1}, {10, 2, 1}, {99, 99, 5}, {100, 20, 1}};
        for (int[] row : rows) {
            pull(x, 1, 0, -row[0]);
            ease(check, x, row[1], row[2]);
        }
        // The longest way there is, and the greatest pull.
        LightSails far = hung(-5, -5, 5, 5);
        pull(far, 1, 100, 100);
        ease(check, far, 10, 1);
        pull(far, 1, 1, 1);
        ease(check, far, 1, 10);
        pull(far, 1, 98, 98);
        ease(check, far, 49, 5);
        // The shortest way there is.
        LightSails near = hung(0, 1, 0, 0);
        pull(near, 1, 0, -100);
        ease(check, near, 100, 1);
    }

    @Says("A STAND gives each STRING a TENSION (any fraction, 0 at least)")
    static void p41FractionsOfSeveralStrings(Check check) {
        // 3 b = a and 2 a + b = 5: 15/7 and 5/7.
        LightSails x = new LightSails();
        x.knot(-1, 2, true);
        x.knot(3, 1, true);
        x.knot(0, 0, false);
        x.string(0, 2);
        x.string(2, 1);
        pull(x, 2, 0, -5);
        ease(check, x, 20, 7);
        check.no("both bear", x.slack(0) || x.slack(1));
        check.yes("both bear", x.taut(0) && x.taut(1));
        // The lower one bears 4 by a way of 2; the upper one 4 and 1 by a way of 3.
        LightSails chain = new LightSails();
        chain.knot(0, 5, true);
        chain.knot(0, 2, false);
        chain.knot(0, 0, false);
        chain.string(0, 1);
        chain.string(1, 2);
        pull(chain, 2, 0, -4);
        ease(check, chain, 10, 3);
        pull(chain, 1, 0, -1);
        ease(check, chain, 11, 3);
    }

    @Says("EASE of the NET: the least sum of TENSIONS of all STANDS")
    static void p41LeastSumOfAnyOrder(Check check) {
        // Ways of 3, 5, 4: 1/3, 1/5 and 1/4 of the pull would do; 1/5 is least, wherever it stands.
        int[][] orders = {{3, 4, 5}, {3, 5, 4}, {4, 3, 5}, {4, 5, 3}, {5, 3, 4}, {5, 4, 3}};
        for (int[] order : orders) {
            LightSails x = new LightSails();
            x.knot(0, 0, false);
            for (int i = 0; i < 3; i++) {
                x.knot(order[i], 0, true);
                x.string(0, i + 1);
            }
            pull(x, 0, -7, 0);
            ease(check, x, 7, 5);
        }
    }

    @Says("EASE of the NET: the least sum of TENSIONS of all STANDS")
    static void p41LeastSum(Check check) {
        // Six strings to knots above one that is drawn down: the longest way needs the least tension.
        LightSails x = new LightSails();
        x.knot(0, -5, false);
        for (int y = 1; y <= 5; y++) {
            x.knot(0, y, true);
            x.string(0, y);
        }
        pull(x, 0, 0, -100);
        ease(check, x, 10, 1);
        pull(x, 0, 0, -99);
        ease(check, x, 99, 10);
        for (int i = 0; i < 5; i++) {
            check.yes("each may bear or not", x.slack(i) && x.taut(i));
        }
    }

    @Says("The NET goes: how many STRINGS it had.")
    static void p42TheNetGoes(Check check) {
        check.same("no net", new LightSails().cut(), 0);
        LightSails x = knots(6);
        check.same("no strings", x.cut(), 0);
        check.same("no knots are left", x.count(15), 0);
        LightSails full = full();
        check.same("six", full.cut(), 6);
        check.same("again", full.cut(), 0);
        check.same("knots", full.count(15), 0);
        check.same("strings", full.count(16), 0);
        check.badIndex("no string", () -> Check.number(full.slack(0)));
        check.badIndex("no knot", () -> pull(full, 0, 0, 0));
        for (int i = 0; i < 6; i++) {
            check.same("room for six knots again", full.knot(i - 3, i * i % 5, true), i);
        }
        for (int i = 0; i < 6; i++) {
            check.same("room for six strings again", full.string(i, (i + 1) % 6), i);
        }
    }

    @Says("The NET goes")
    static void p42PullsGoWithIt(Check check) {
        LightSails x = hung(0, 5, 0, 0);
        pull(x, 1, 0, 1);
        pull(x, 0, 7, 7);
        check.no("it does not hang", x.hangs());
        x.cut();
        check.yes("nothing hangs", x.hangs());
        ease(check, x, 0, 1);
        x.knot(0, 5, false);
        x.knot(0, 0, false);
        check.yes("new knots have no pull", x.hangs());
        check.same("they have no string yet", x.string(0, 1), 0);
    }
}
