/** Promises 30 to 34, sentence by sentence: coats, sights, and which coats may be hidden there. */
public final class P30To34Test {
    public static void main(String[] args) throws IllegalAccessException {
        Sentences.run(P30To34Test.class);
    }

    /** Panels that push by 1,000 for each COAT of 0 and 100, by 2,000 for 100 and 0, by 1,500 as they are. */
    private static LightSails panels(int count) {
        LightSails x = new LightSails();
        for (int i = 0; i < count; i++) {
            x.panel(0, 0, 1000, 50, 50);
        }
        return x;
    }

    private static LightSails coated(int panels) {
        LightSails x = panels(panels);
        x.coat(0, 100);
        x.coat(100, 0);
        return x;
    }

    private static LightSails sighted(int panels, int slant, int seen, int ends) {
        LightSails x = coated(panels);
        x.sight(slant, seen, ends);
        return x;
    }

    @Says({"A COAT: its number;", "COATS, numbered from 0 on, 5 at most: BACK and KEPT."})
    static void p30EndsOfBackAndKept(Check check) {
        Ends.ofArgument(check, "back", 0, 100, v -> new LightSails().coat(v, 0));
        Ends.ofArgument(check, "kept", 0, 100, v -> new LightSails().coat(0, v));
        int[][] taken = {{0, 0}, {50, 50}, {99, 1}, {1, 99}};
        for (int[] t : taken) {
            check.same("coat", new LightSails().coat(t[0], t[1]), 0);
        }
        int[][] wrong = {{100, 1}, {1, 100}, {51, 50}, {50, 51}, {101, -1}, {-1, 101}, {-1, 1}, {1, -1},
            {Integer.MAX_VALUE, Integer.MAX_VALUE}, {Integer.MIN_VALUE, Integer.MIN_VALUE}};
        for (int[] w : wrong) {
            check.badArgument("coat", () -> new LightSails().coat(w[0], w[1]));
        }
    }

    @Says("-1: there are 5.")
    static void p30FiveCoats(Check check) {
        LightSails x = panels(1);
        check.badArgument("a refused one", () -> x.coat(51, 50));
        check.same("is not there", x.count(11), 0);
        for (int i = 0; i < 5; i++) {
            check.same("coat", x.coat(20 * i, 0), i);
            check.same("coats", x.count(11), i + 1);
        }
        check.same("a sixth", x.coat(100, 0), -1);
        check.same("coats", x.count(11), 5);
        check.same("five fits", x.fits(1), 5);
        // The exception is told for what is none such, full or not.
        check.badArgument("a wrong sixth", () -> x.coat(51, 50));
        check.same("coats", x.count(11), 5);
    }

    @Says("IllegalArgumentException: the SLANT, X (0 to 1,000,000), or ENDS (0 to 10,000).")
    static void p31EndsOfEachNumber(Check check) {
        Ends.ofArgument(check, "slant", -8, 8, v -> new LightSails().sight(v, 0, 0));
        Ends.ofArgument(check, "x", 0, 1000000, v -> new LightSails().sight(0, v, 0));
        Ends.ofArgument(check, "ends", 0, 10000, v -> new LightSails().sight(0, 0, v));
    }

    @Says({"A SIGHT: how many there are; -1: there are 6.", "SIGHTS, 6 at most: a SLANT, X seen, ENDS:"})
    static void p31SixSights(Check check) {
        LightSails x = coated(1);
        check.badArgument("a refused one", () -> x.sight(9, 0, 0));
        check.same("is not there", x.count(12), 0);
        for (int i = 1; i <= 6; i++) {
            check.same("sight", x.sight(0, 1500, 500), i);
            check.same("sights", x.count(12), i);
        }
        check.same("all hold", x.fits(1), 2);
        check.same("a seventh", x.sight(0, 0, 0), -1);
        check.same("sights", x.count(12), 6);
        check.same("it is not there", x.fits(1), 2);
        // The exception is told for what is none such, full or not.
        check.badArgument("a wrong seventh", () -> x.sight(0, -1, 0));
        check.same("sights", x.count(12), 6);
    }

    @Says("it holds, if PUSH X is so many away at most.")
    static void p31EndsOfASight(Check check) {
        int[][] rows = {{1000, 0, 1}, {999, 0, 0}, {1001, 0, 0}, {990, 10, 1}, {989, 10, 0}, {1010, 10, 1},
            {1011, 10, 0}, {0, 1000, 1}, {0, 999, 0}, {11000, 10000, 2}, {12000, 10000, 1}, {12001, 10000, 0},
            {1000000, 10000, 0}};
        for (int[] row : rows) {
            LightSails x = sighted(1, 0, row[0], row[1]);
            check.same("seen " + row[0] + ", ends " + row[1], x.fits(1), row[2]);
        }
        // The ends of the slants: 174 of 1,000 kept; 174 * 174 * 2 by 1,000 of 1,000 thrown back is 60.
        check.same("slant 8", sighted(1, 8, 174, 0).fit(1, 0), 0);
        check.same("slant -8", sighted(1, -8, 60, 0).fit(1, 0), 1);
    }

    @Says({"FITS for the first m PANELS: how many.",
        "IllegalArgumentException: not 1 to 4, or there are not so many PANELS (so below)."})
    static void p32OneToFourPanels(Check check) {
        Ends.ofArgument(check, "m", 1, 4, v -> coated(16).fits(v));
        for (int panels = 0; panels <= 4; panels++) {
            LightSails x = coated(panels);
            for (int m = 1; m <= 4; m++) {
                int first = m;
                if (m <= panels) {
                    check.same("fits " + m + " of " + panels, x.fits(m), 1 << m);
                } else {
                    check.badArgument("fits " + m + " of " + panels, () -> x.fits(first));
                }
            }
            check.badArgument("fits 0", () -> x.fits(0));
        }
    }

    @Says("FITS for the first m PANELS (1 to 4): rows of COATS for them (all others as they are), by which all SIGHTS "
        + "hold.")
    static void p32NoneToAllRows(Check check) {
        LightSails x = panels(4);
        for (int m = 1; m <= 4; m++) {
            check.same("no coats", x.fits(m), 0);
        }
        x.coat(0, 0);
        for (int m = 1; m <= 4; m++) {
            check.same("one coat", x.fits(m), 1);
        }
        for (int i = 1; i < 5; i++) {
            x.coat(20 * i, 0);
        }
        int[] due = {5, 25, 125, 625};
        for (int m = 1; m <= 4; m++) {
            check.same("no sights", x.fits(m), due[m - 1]);
        }
        LightSails two = sighted(3, 0, 4500, 0);
        check.same("the third has 1,500 as it is", two.fits(2), 2);
        check.same("all three: 3,000 to 6,000 by 1,000", two.fits(3), 0);
        two.sight(0, 4000, 500);
        check.same("both sights hold", two.fits(2), 2);
        two.sight(0, 4000, 499);
        check.same("one does not", two.fits(2), 0);
        check.same("the panels are as they were", two.of(0, 0), 50);
        check.same("the panels are as they were", two.push(0, 0), 4500);
    }

    @Says("The COAT of PANEL k in the first of FITS (PANEL by PANEL the least COAT); NONE.")
    static void p33FirstAndLastPanel(Check check) {
        LightSails x = sighted(4, 0, 5000, 0);
        int[] due = {0, 0, 0, 1};
        for (int k = 0; k < 4; k++) {
            check.same("panel " + k, x.fit(4, k), due[k]);
        }
        for (int m = 1; m <= 4; m++) {
            LightSails free = coated(4);
            check.same("last of " + m, free.fit(m, m - 1), 0);
            for (int k : new int[] {-1, m, 4, Integer.MIN_VALUE, Integer.MAX_VALUE}) {
                check.same("panel " + k + " of " + m, free.fit(m, k), -1);
            }
        }
        check.same("no fits", sighted(1, 0, 1, 0).fit(1, 0), -1);
        check.same("no coats", panels(1).fit(1, 0), -1);
        check.same("the last coat", lastOfFive(), 4);
    }

    private static int lastOfFive() {
        LightSails x = panels(1);
        for (int i = 0; i < 5; i++) {
            x.coat(20 * i, 0);
        }
        x.sight(0, 1600, 0);
        return x.fit(1, 0);
    }

    @Says("int fit(int m, int k) throws IllegalArgumentException")
    static void p33OneToFourPanels(Check check) {
        Ends.ofArgument(check, "m", 1, 4, v -> coated(5).fit(v, 0));
        Ends.ofArgument(check, "m of two", 1, 2, v -> coated(2).fit(v, 0));
        check.badArgument("no panels", () -> coated(0).fit(1, 0));
        check.badArgument("m is looked at ahead of k", () -> coated(2).fit(3, -1));
    }

    @Says({"SHOWS most: the SLANT; -9: there are no FITS.", "SHOWS most: the SLANT for which PUSH X has the most unlike "
        + "values over all FITS;"})
    static void p34NoFits(Check check) {
        check.same("no coats", panels(1).shows(1), -9);
        check.same("no row holds", sighted(2, 0, 1, 0).shows(2), -9);
        Ends.ofArgument(check, "m", 1, 4, v -> coated(5).shows(v));
        Ends.ofArgument(check, "m of two", 1, 2, v -> coated(2).shows(v));
        check.badArgument("no panels", () -> coated(0).shows(1));
    }

    @Says("of these the least.")
    static void p34LeastOfEqualSlants(Check check) {
        check.same("two values at every slant", coated(1).shows(1), -8);
        check.same("one fit", sighted(1, 0, 1000, 0).shows(1), -8);
        // An area of 1 pushes by 1 or 2 when it stands straight; at 4 by 0.766 or 1.17, at 5 by 0 either way.
        LightSails x = new LightSails();
        x.panel(0, 0, 1, 0, 0);
        x.coat(0, 100);
        x.coat(100, 0);
        check.same("-4 and 4 show two values, and those between", x.shows(1), -4);
        // A torn panel shows nothing: one value everywhere.
        LightSails torn = coated(1);
        torn.tear(0);
        check.same("torn", torn.shows(1), -8);
        check.same("its rows are fits all the same", torn.fits(1), 2);
    }

    @Says("the SLANT for which PUSH X has the most unlike values over all FITS;")
    static void p34GreatestSlant(Check check) {
        // Bent by -2, the area of 4 and of 28 show four values at 8 alone, as was found by trying.
        LightSails x = new LightSails();
        int[][] flaps = {{4, -1}, {28, -2}};
        for (int i = 0; i < 2; i++) {
            x.panel(0, 0, flaps[i][0], 0, 0);
            x.flap(i);
            x.bend(i, flaps[i][1]);
        }
        x.coat(60, 23);
        x.coat(44, 49);
        check.same("8", x.shows(2), 8);
    }

    @Says("rows of COATS for them (all others as they are)")
    static void p34GreatestPushes(Check check) {
        // Four panels of 2,000 each, beside twelve more: 8,000 of 32,000 is what the rows change.
        LightSails x = new LightSails();
        for (int i = 0; i < 16; i++) {
            x.panel(0, 0, 1000, 100, 0);
        }
        x.coat(100, 0);
        x.coat(0, 0);
        check.same("16 rows", x.fits(4), 16);
        check.same("shows", x.shows(4), -8);
        x.sight(0, 32000, 0);
        check.same("all thrown back", x.fits(4), 1);
        check.same("shows", x.shows(4), -8);
        LightSails y = new LightSails();
        for (int i = 0; i < 4; i++) {
            y.panel(0, 0, 1000, 0, 0);
        }
        y.coat(0, 0);
        y.coat(100, 0);
        y.sight(0, 8000, 0);
        check.same("the greatest push is one", y.fit(4, 3), 1);
    }
}
