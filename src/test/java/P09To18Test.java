/** Promises 9 to 18, sentence by sentence: panels, flaps, weights; push, turn, trim. */
public final class P09To18Test {
    private static final int[] COS = {1000, 985, 940, 866, 766, 643, 500, 342, 174};
    private static final int[] SIN = {0, 174, 342, 500, 643, 766, 866, 940, 985};

    public static void main(String[] args) throws IllegalAccessException {
        Sentences.run(P09To18Test.class);
    }

    private static LightSails panels(int count) {
        LightSails x = new LightSails();
        for (int i = 0; i < count; i++) {
            x.panel(i, -i, 1000, 0, 100);
        }
        return x;
    }

    private static LightSails flaps(int count) {
        LightSails x = panels(6);
        for (int i = 0; i < count; i++) {
            x.flap(i);
        }
        return x;
    }

    /** One panel of the greatest area that keeps all: its push along the light is the COS of its slant. */
    private static LightSails keeping(int curl) {
        LightSails x = panels(1);
        x.fly(5 * curl);
        return x;
    }

    private static int cos(int slant) {
        return COS[Math.abs(slant)];
    }

    @Says({"A PANEL: its number;", "PANELS, numbered from 0 on,", "at x, y (-20 to 20), AREA (1 to 1,000), "
        + "BACK and KEPT (hundredths, 0 to 100, together 100 at most);",
        "IllegalArgumentException: one is none such (so below)."})
    static void p09EndsOfEachNumber(Check check) {
        Ends.ofArgument(check, "x", -20, 20, v -> new LightSails().panel(v, 0, 1, 0, 0));
        Ends.ofArgument(check, "y", -20, 20, v -> new LightSails().panel(0, v, 1, 0, 0));
        Ends.ofArgument(check, "area", 1, 1000, v -> new LightSails().panel(0, 0, v, 0, 0));
        Ends.ofArgument(check, "back", 0, 100, v -> new LightSails().panel(0, 0, 1, v, 0));
        Ends.ofArgument(check, "kept", 0, 100, v -> new LightSails().panel(0, 0, 1, 0, v));
        check.badArgument("area -1", () -> new LightSails().panel(0, 0, -1, 0, 0));
    }

    @Says("BACK and KEPT (hundredths, 0 to 100, together 100 at most)")
    static void p09BackAndKeptTogether(Check check) {
        int[][] taken = {{0, 0}, {100, 0}, {0, 100}, {50, 50}, {1, 99}, {99, 1}};
        for (int[] t : taken) {
            LightSails x = new LightSails();
            check.same("panel", x.panel(0, 0, 1, t[0], t[1]), 0);
            check.same("back", x.of(0, 0), t[0]);
            check.same("kept", x.of(0, 1), t[1]);
        }
        int[][] wrong = {{100, 1}, {1, 100}, {51, 50}, {50, 51}, {100, 100}, {101, -1}, {-1, 101}, {-1, 1}, {1, -1},
            {Integer.MAX_VALUE, Integer.MAX_VALUE}, {Integer.MIN_VALUE, Integer.MIN_VALUE}};
        for (int[] w : wrong) {
            check.badArgument("back and kept", () -> new LightSails().panel(0, 0, 1, w[0], w[1]));
        }
    }

    @Says({"-1: there are 16.", "16 at most: at x, y"})
    static void p09SixteenPanels(Check check) {
        LightSails x = new LightSails();
        for (int i = 0; i < 16; i++) {
            check.same("panel", x.panel(0, 0, 1, 0, 0), i);
        }
        for (int i = 0; i < 3; i++) {
            check.same("one more", x.panel(5, 5, 1000, 50, 50), -1);
        }
        check.same("panels", x.count(3), 16);
        check.same("the last is as it was", x.of(15, 0), 0);
        check.same("nothing pushes", x.push(0, 0), 0);
        check.noElement("no 17th", () -> x.of(16, 0));
    }

    @Says("IllegalArgumentException: one is none such (so below).")
    static void p09RefusedPanelIsNotThere(Check check) {
        LightSails x = panels(1);
        check.badArgument("area 0", () -> x.panel(0, 0, 0, 0, 0));
        check.same("panels", x.count(3), 1);
        check.same("the next has the next number", x.panel(0, 0, 1, 0, 0), 1);
        // The exception is told for what is none such, full or not.
        LightSails full = panels(16);
        check.badArgument("a wrong 17th", () -> full.panel(21, 0, 1, 0, 0));
        check.badArgument("a wrong 17th", () -> full.panel(0, 0, 1, 51, 50));
    }

    @Says({"Of a PANEL: 0 BACK, 1 KEPT, 2 TORN (1, 0), 3 CURL, 4 DAYS it was WARM on end.",
        "IllegalArgumentException: another what."})
    static void p10WhatIsAsked(Check check) {
        LightSails x = new LightSails();
        x.panel(1, 2, 3, 40, 50);
        int[] due = {40, 50, 0, 0, 0};
        for (int what = 0; what < 5; what++) {
            check.same("of " + what, x.of(0, what), due[what]);
        }
        Ends.ofArgument(check, "what", 0, 4, v -> x.of(0, v));
        x.tear(0);
        check.same("torn", x.of(0, 2), 1);
    }

    @Says("NoSuchElementException: no such PANEL (so below);")
    static void p10NoSuchPanel(Check check) {
        check.noElement("of none", () -> new LightSails().of(0, 0));
        LightSails x = panels(16);
        Ends.ofElement(check, "panel", 16, v -> x.of(v, 0));
        Ends.ofElement(check, "panel", 2, v -> panels(2).of(v, 0));
        // No such panel comes ahead of another what, as the face has them.
        check.noElement("no panel and another what", () -> x.of(16, 5));
    }

    @Says({"TORN or not; CURL (0 at first).", "It is TORN: whether it was."})
    static void p11WhetherItWas(Check check) {
        LightSails x = panels(2);
        check.same("not at first", x.of(0, 2), 0);
        check.same("no curl at first", x.of(0, 3), 0);
        check.no("tear", x.tear(0));
        check.yes("again", x.tear(0));
        check.yes("and again", x.tear(0));
        check.same("torn", x.of(0, 2), 1);
        check.same("the other is whole", x.of(1, 2), 0);
        check.no("tear the other", x.tear(1));
    }

    @Says("boolean tear(int panel) throws NoSuchElementException")
    static void p11NoSuchPanel(Check check) {
        check.noElement("none", () -> Check.number(new LightSails().tear(0)));
        Ends.ofElement(check, "panel", 1, v -> Check.number(panels(1).tear(v)));
        Ends.ofElement(check, "panel", 16, v -> Check.number(panels(16).tear(v)));
    }

    @Says({"A FLAP: its number; -1: there are 4;", "FLAPS, numbered from 0 on, 4 at most,"})
    static void p12FourFlaps(Check check) {
        LightSails x = panels(6);
        int[] order = {5, 0, 3, 1};
        for (int i = 0; i < 4; i++) {
            check.same("flap of " + order[i], x.flap(order[i]), i);
            check.same("flaps", x.count(4), i + 1);
        }
        check.same("a fifth", x.flap(2), -1);
        check.same("a fifth again", x.flap(4), -1);
        check.same("flaps", x.count(4), 4);
        check.badIndex("no fifth", () -> x.bend(4, 0));
    }

    @Says({"-2: the PANEL is one.", "each a PANEL (one PANEL one FLAP): BEND (-2 to 2; 0 at first); STUCK or not."})
    static void p12OnePanelOneFlap(Check check) {
        LightSails x = panels(6);
        check.same("flap", x.flap(3), 0);
        check.same("again", x.flap(3), -2);
        check.same("flaps", x.count(4), 1);
        check.same("another", x.flap(0), 1);
        check.same("the first again", x.flap(3), -2);
        check.same("not bent at first", x.bend(0, 0), 0);
        check.no("not stuck at first", x.stuck(0, false));
    }

    @Says("A FLAP: its number; -1: there are 4; -2: the PANEL is one.")
    static void p12FullIsToldAheadOfBeingOne(Check check) {
        // Both hold; -1 is written first.
        LightSails x = flaps(4);
        for (int panel = 0; panel < 4; panel++) {
            check.same("flap " + panel, x.flap(panel), -1);
        }
        check.same("the third of three is one", flaps(3).flap(2), -2);
    }

    @Says("int flap(int panel) throws NoSuchElementException")
    static void p12NoSuchPanel(Check check) {
        check.noElement("none", () -> new LightSails().flap(0));
        Ends.ofElement(check, "panel", 6, v -> panels(6).flap(v));
        LightSails full = flaps(4);
        check.noElement("no panel, though there are 4", () -> full.flap(6));
        check.noElement("no panel, though there are 4", () -> full.flap(-1));
    }

    @Says("BEND: what it was;")
    static void p13FromMinus2To2(Check check) {
        LightSails x = flaps(1);
        check.same("0 at first", x.bend(0, -2), 0);
        check.same("-2", x.bend(0, 2), -2);
        check.same("2", x.bend(0, 2), 2);
        Ends.ofArgument(check, "bend", -2, 2, v -> flaps(1).bend(0, v));
        check.badArgument("3", () -> x.bend(0, 3));
        check.badArgument("-3", () -> x.bend(0, -3));
        check.same("a refused one does nothing", x.bend(0, 1), 2);
    }

    @Says("NONE less 2 (-3): it is STUCK.")
    static void p13StuckStays(Check check) {
        LightSails x = flaps(2);
        x.bend(1, 2);
        x.stuck(1, true);
        check.same("stuck", x.bend(1, -1), -3);
        check.same("as it is already", x.bend(1, 2), -3);
        check.same("the other bends", x.bend(0, 1), 0);
        x.stuck(1, false);
        check.same("it was 2 all along", x.bend(1, 0), 2);
        // What is none such throws, stuck or not.
        x.stuck(1, true);
        check.badArgument("bend 3 of a stuck one", () -> x.bend(1, 3));
    }

    @Says("IndexOutOfBoundsException: no such FLAP (so below).")
    static void p13NoSuchFlap(Check check) {
        check.badIndex("none", () -> new LightSails().bend(0, 0));
        Ends.ofIndex(check, "flap", 1, v -> flaps(1).bend(v, 0));
        Ends.ofIndex(check, "flap", 4, v -> flaps(4).bend(v, 0));
        // No such flap comes ahead of a bend that is none such, as the face has them.
        check.badIndex("no flap and no bend", () -> flaps(1).bend(1, 3));
        check.badIndex("a panel is no flap", () -> flaps(1).bend(5, 0));
    }

    @Says("A FLAP is STUCK, or not: what it was.")
    static void p14WhatItWas(Check check) {
        LightSails x = flaps(2);
        check.no("not at first", x.stuck(0, false));
        check.no("told", x.stuck(0, true));
        check.yes("told again", x.stuck(0, true));
        check.yes("freed", x.stuck(0, false));
        check.no("freed again", x.stuck(0, false));
        check.no("the other never", x.stuck(1, true));
        check.no("the first not by it", x.stuck(0, true));
    }

    @Says("boolean stuck(int flap, boolean is) throws IndexOutOfBoundsException")
    static void p14NoSuchFlap(Check check) {
        check.badIndex("none", () -> Check.number(new LightSails().stuck(0, true)));
        Ends.ofIndex(check, "flap", 1, v -> Check.number(flaps(1).stuck(v, true)));
        Ends.ofIndex(check, "flap", 4, v -> Check.number(flaps(4).stuck(v, false)));
    }

    private static long weigh(LightSails x, int wx, int wy) {
        x.weights(wx, wy);
        return 0;
    }

    private static void turns(Check check, LightSails x, int dueX, int dueY) {
        check.same("turn by x", x.turn(0, 0), dueX);
        check.same("turn by y", x.turn(0, 1), dueY);
    }

    @Says({"WEIGHTS.", "WEIGHTS: x, y (-20 to 20; 0 at first)."})
    static void p15EndsOfWeights(Check check) {
        Ends.ofArgument(check, "x", -20, 20, v -> weigh(new LightSails(), v, 0));
        Ends.ofArgument(check, "y", -20, 20, v -> weigh(new LightSails(), 0, v));
        // Press is 2,000 at 20, -20.
        LightSails x = new LightSails();
        x.panel(20, -20, 1000, 100, 0);
        turns(check, x, 40000, -40000);
        weigh(x, -20, 20);
        turns(check, x, 80000, -80000);
        weigh(x, 20, -20);
        turns(check, x, 0, 0);
    }

    @Says("void weights(int x, int y) throws IllegalArgumentException")
    static void p15RefusedWeightsStay(Check check) {
        LightSails x = new LightSails();
        x.panel(0, 0, 1000, 100, 0);
        weigh(x, -3, 4);
        check.badArgument("x is none such", () -> weigh(x, 21, 0));
        check.badArgument("y is none such", () -> weigh(x, 0, -21));
        turns(check, x, 6000, -8000);
    }

    @Says({"PUSH X (0), Y (1) for a SLANT.", "SLANT s: -8 to 8;"})
    static void p16EndsOfSlantAndWhat(Check check) {
        LightSails x = panels(1);
        Ends.ofArgument(check, "slant", -8, 8, v -> x.push(v, 0));
        Ends.ofArgument(check, "slant", -8, 8, v -> x.push(v, 1));
        Ends.ofArgument(check, "what", 0, 1, v -> x.push(0, v));
    }

    @Says({"COS(s), by the amount of s, 0 to 8: 1000 985 940 866 766 643 500 342 174; SIN: 0 174 342 500 643 766 866 940 "
        + "985, with the sign of s.", "Of a PANEL that is not TORN, c and n being COS and SIN of its SLANT:"})
    static void p16EachSlant(Check check) {
        LightSails keeps = panels(1);
        LightSails throwsBack = new LightSails();
        throwsBack.panel(0, 0, 1000, 50, 0);
        for (int s = -8; s <= 8; s++) {
            int n = s < 0 ? -SIN[-s] : SIN[s];
            check.same("x, slant " + s, keeps.push(s, 0), cos(s));
            check.same("y, slant " + s, keeps.push(s, 1), 0);
            check.same("x, slant " + s, throwsBack.push(s, 0), cos(s) * cos(s) / 1000);
            check.same("y, slant " + s, throwsBack.push(s, 1), cos(s) * n / 1000);
        }
    }

    @Says("SIN: 0 174 342 500 643 766 866 940 985, with the sign of s.")
    static void p16SinToTheLastDigit(Check check) {
        // Slant, back and Y: so near to a whole number that a SIN of one more or one less would show.
        int[][] rows = {{1, 34, 116}, {2, 29, 186}, {3, 34, 294}, {4, 37, 364}, {5, 50, 492}, {6, 63, 545}, {7, 78, 501},
            {8, 96, 329}, {8, 100, 342}};
        for (int[] row : rows) {
            LightSails x = new LightSails();
            x.panel(0, 0, 1000, row[1], 0);
            check.same("slant " + row[0], x.push(row[0], 1), row[2]);
            check.same("slant -" + row[0], x.push(-row[0], 1), -row[2]);
        }
    }

    @Says("of a PANEL: the sail's, and its CURL, and its BEND if it is a FLAP, but -8 at least, 8 at most.")
    static void p16SlantOfAPanelHasEnds(Check check) {
        for (int curl = 0; curl <= 2; curl++) {
            LightSails x = keeping(curl);
            x.flap(0);
            for (int bend = -2; bend <= 2; bend++) {
                x.bend(0, bend);
                for (int s = -8; s <= 8; s++) {
                    // All three together are held to -8 and 8, not each sum on the way.
                    int own = Math.max(-8, Math.min(8, s + curl + bend));
                    check.same("slant " + s + " curl " + curl + " bend " + bend, x.push(s, 0), cos(own));
                }
            }
        }
    }

    @Says("of a PANEL: the sail's, and its CURL, and its BEND if it is a FLAP, but -8 at least, 8 at most.")
    static void p16EndsOfSlantByHand(Check check) {
        LightSails x = keeping(2);
        check.same("8 and curl 2 is 8", x.push(8, 0), 174);
        check.same("6 and curl 2 is 8", x.push(6, 0), 174);
        check.same("5 and curl 2 is 7", x.push(5, 0), 342);
        check.same("-8 and curl 2 is -6", x.push(-8, 0), 500);
        x.flap(0);
        x.bend(0, -2);
        check.same("8, curl 2 and bend -2 is 8", x.push(8, 0), 174);
        check.same("-8, curl 2 and bend -2 is -8", x.push(-8, 0), 174);
    }

    @Says("X: AREA c (1000 KEPT + 2 BACK c), by 100,000,000, cut.")
    static void p16XIsCut(Check check) {
        LightSails x = new LightSails();
        x.panel(0, 0, 1, 0, 99);
        check.same("0.99", x.push(0, 0), 0);
        x.panel(0, 0, 1, 0, 99);
        check.same("0.99 twice, each cut", x.push(0, 0), 0);
        x.panel(0, 0, 1, 0, 100);
        check.same("1", x.push(0, 0), 1);
        x.panel(0, 0, 1, 100, 0);
        check.same("2 more", x.push(0, 0), 3);
        // 910 * 866 * (36,000 + 4 * 866) is 31,099,999,840.
        LightSails near = new LightSails();
        near.panel(0, 0, 910, 2, 36);
        check.same("310.999998", near.push(3, 0), 310);
    }

    @Says("Y: AREA c (2 BACK n), by 100,000,000, cut towards 0.")
    static void p16YIsCutTowards0(Check check) {
        // 7 * 866 * (2 * 33 * 500) by 100,000,000 is 2.0004; 7 * 985 * (2 * 33 * 174) is 0.79.
        LightSails x = new LightSails();
        x.panel(0, 0, 7, 33, 11);
        check.same("2.0004", x.push(3, 1), 2);
        check.same("-2.0004", x.push(-3, 1), -2);
        check.same("0.79", x.push(1, 1), 0);
        check.same("-0.79", x.push(-1, 1), 0);
        x.panel(0, 0, 7, 33, 11);
        check.same("-0.79 twice, each cut", x.push(-1, 1), 0);
    }

    @Says("PUSH X, Y: of all PANELS together.")
    static void p16NoneOneAndAllPanels(Check check) {
        LightSails x = new LightSails();
        check.same("none, x", x.push(0, 0), 0);
        check.same("none, y", x.push(8, 1), 0);
        for (int i = 1; i <= 16; i++) {
            x.panel(0, 0, 1000, 100, 0);
            check.same("x of " + i, x.push(0, 0), 2000 * i);
            check.same("y of " + i, x.push(-4, 1), -985 * i);
        }
        for (int i = 0; i < 16; i++) {
            x.tear(i);
        }
        check.same("all are torn, x", x.push(0, 0), 0);
        check.same("all are torn, y", x.push(-4, 1), 0);
    }

    @Says("TURN by an axis (0, 1).")
    static void p17EndsOfSlantAndAxis(Check check) {
        LightSails x = panels(1);
        Ends.ofArgument(check, "slant", -8, 8, v -> x.turn(v, 0));
        Ends.ofArgument(check, "slant", -8, 8, v -> x.turn(v, 1));
        Ends.ofArgument(check, "axis", 0, 1, v -> x.turn(0, v));
    }

    @Says("PRESS: AREA c c (2 BACK + KEPT), by 100,000,000, cut.")
    static void p17PressIsCut(Check check) {
        LightSails x = new LightSails();
        x.panel(20, -20, 1, 49, 1);
        turns(check, x, 0, 0);
        x.panel(20, -20, 1, 50, 0);
        turns(check, x, 20, -20);
        x.panel(20, -20, 1, 99, 1);
        turns(check, x, 40, -40);
        // 1000 * 174 * 174 * 200 by 100,000,000 is 60.55.
        LightSails y = new LightSails();
        y.panel(1, 1, 1000, 100, 0);
        check.same("slant 8", y.turn(8, 0), 60);
        check.same("slant -8", y.turn(-8, 1), 60);
    }

    @Says("TURN by axis 0: PRESS times (x less WEIGHTS' x), together; by axis 1: with y.")
    static void p17NoneAndAllPanels(Check check) {
        LightSails x = new LightSails();
        turns(check, x, 0, 0);
        weigh(x, -20, 20);
        turns(check, x, 0, 0);
        for (int i = 1; i <= 16; i++) {
            x.panel(20, -20, 1000, 100, 0);
            turns(check, x, 80000 * i, -80000 * i);
        }
        for (int i = 0; i < 16; i++) {
            x.tear(i);
        }
        turns(check, x, 0, 0);
    }

    @Says({"TRIM: what -1 both TURNS' amounts together, or the BEND of FLAP what (0 to 3);",
        "IllegalArgumentException: another what."})
    static void p18EndsOfSlantAndWhat(Check check) {
        LightSails x = flaps(4);
        Ends.ofArgument(check, "slant", -8, 8, v -> x.trim(v, -1));
        Ends.ofArgument(check, "slant", -8, 8, v -> x.trim(v, 0));
        Ends.ofArgument(check, "what", -1, 3, v -> x.trim(0, v));
        Ends.ofArgument(check, "what of no flaps", -1, 3, v -> new LightSails().trim(0, v));
    }

    @Says("-3: no such FLAP.")
    static void p18NoSuchFlap(Check check) {
        for (int count = 0; count <= 4; count++) {
            LightSails x = flaps(count);
            for (int what = 0; what < 4; what++) {
                boolean isNone = x.trim(0, what) == -3;
                check.same("flap " + what + " of " + count, Check.number(isNone), what >= count ? 1 : 0);
            }
        }
    }

    @Says("TRIM for a SLANT: BENDS of the FLAPS that are not STUCK (others as they are), so that both TURNS' amounts "
        + "together are least;")
    static void p18StuckFlapsStay(Check check) {
        // Two alike at -3 and 3: they are even when their slants' amounts are.
        LightSails x = new LightSails();
        x.panel(-3, 0, 1000, 50, 50);
        x.panel(3, 0, 1000, 50, 50);
        x.flap(0);
        x.flap(1);
        x.bend(0, 2);
        x.stuck(0, true);
        x.bend(1, 1);
        check.same("even", x.trim(0, -1), 0);
        check.same("the stuck one", x.trim(0, 0), 2);
        check.same("the free one", x.trim(0, 1), -2);
        x.stuck(1, true);
        check.same("both as they are", x.trim(0, -1), Math.abs(x.turn(0, 0)));
        check.same("the second is stuck at 1", x.trim(0, 1), 1);
        check.same("amounts are of both turns", onePanelTrim(), 2 * 5 * 150);
    }

    private static int onePanelTrim() {
        LightSails x = new LightSails();
        x.panel(-5, 5, 100, 50, 50);
        return x.trim(0, -1);
    }

    @Says("of these the first (FLAP by FLAP, from -2 on).")
    static void p18FirstOfEqual(Check check) {
        // Flaps at the weights turn nothing, so every row is alike.
        LightSails x = new LightSails();
        for (int i = 0; i < 4; i++) {
            x.panel(0, 0, 1000, 50, 50);
            x.flap(i);
            x.bend(i, 2);
        }
        for (int i = 0; i < 4; i++) {
            check.same("flap " + i, x.trim(0, i), -2);
        }
        x.stuck(1, true);
        int[] due = {-2, 2, -2, -2};
        for (int i = 0; i < 4; i++) {
            check.same("flap " + i, x.trim(0, i), due[i]);
        }
        // -2 and 2 turn alike about slant 0; the first is -2.
        LightSails y = flaps(1);
        y.weights(-20, 20);
        check.same("as little press as can be", y.trim(0, 0), -2);
    }

    @Says("of these the first (FLAP by FLAP, from -2 on).")
    static void p18FirstAndLastOfAllRows(Check check) {
        // All at one side: the less press, the less turn. At slant 2 that is 4 for each, at -2 it is -4.
        LightSails x = new LightSails();
        for (int i = 0; i < 4; i++) {
            x.panel(10, 0, 1000, 0, 100);
            x.flap(i);
        }
        for (int i = 0; i < 4; i++) {
            check.same("the last row, flap " + i, x.trim(2, i), 2);
            check.same("the first row, flap " + i, x.trim(-2, i), -2);
        }
        // 766 * 766 by 1,000 is 586.
        check.same("the last row", x.trim(2, -1), 4 * 10 * 586);
        check.same("the first row", x.trim(-2, -1), 4 * 10 * 586);
        // Two that are unlike, 1,000 at 1 and 500 at -2: straight they press by 1,000 and 500, bent by 1 by 970 and 485,
        // bent by 2 by 883 and 441, so that -1 and -1 is the first row that is even.
        LightSails unlike = new LightSails();
        unlike.panel(1, 0, 1000, 0, 100);
        unlike.panel(-2, 0, 500, 0, 100);
        unlike.flap(0);
        unlike.flap(1);
        check.same("even", unlike.trim(0, -1), 0);
        check.same("flap 0", unlike.trim(0, 0), -1);
        check.same("flap 1", unlike.trim(0, 1), -1);
        // A flap that was free and is stuck now, and one that is free again.
        x.stuck(1, true);
        check.same("stuck at 0", x.trim(2, 1), 0);
        x.stuck(1, false);
        check.same("free again", x.trim(2, 1), 2);
    }

    @Says("so that both TURNS' amounts together are least;")
    static void p18OtherPanelsTurnToo(Check check) {
        LightSails x = new LightSails();
        x.panel(3, -7, 1000, 0, 100);
        x.panel(-2, 20, 1000, 0, 100);
        for (int asked = 0; asked < 3; asked++) {
            check.same("1 and 13, asked " + asked, x.trim(0, -1), 1000 * (1 + 13));
        }
        // A third, a flap, can't do better than even them out: its press is 883 at 2, 940 * 940 by 1,000.
        x.panel(0, -13, 1000, 0, 100);
        x.flap(2);
        check.same("even but for x", x.trim(0, -1), 1000);
        check.same("straight", x.trim(0, 0), 0);
        x.weights(0, 1);
        check.same("by y: -8, 19 and -14", x.turn(0, 1), -3000);
        // 1,000 by x; by y 11,000 less 14 * 883 is -1,362, less 14 * 970 is -2,580.
        check.same("less press", x.trim(0, -1), 1000 + 1362);
        check.same("bent", x.trim(0, 0), -2);
    }

    @Says("TRIM: what -1 both TURNS' amounts together, or the BEND of FLAP what (0 to 3); -3: no such FLAP.")
    static void p18TrimBendsNothing(Check check) {
        LightSails x = flaps(2);
        x.bend(0, 1);
        int turn = x.turn(2, 0);
        x.trim(2, -1);
        x.trim(2, 0);
        check.same("turn", x.turn(2, 0), turn);
        check.same("bend 0", x.bend(0, 0), 1);
        check.same("bend 1", x.bend(1, 0), 0);
        check.same("nothing at all", new LightSails().trim(0, -1), 0);
    }
}
