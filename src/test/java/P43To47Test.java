/** Promises 43 to 47, sentence by sentence: offers, the best sheet; ways that begin late; what is counted. */
public final class P43To47Test {
    private static final int WHATS = 18;

    public static void main(String[] args) throws IllegalAccessException {
        Sentences.run(P43To47Test.class);
    }

    private static LightSails offers(int count, int x, int y, int gain, int cost) {
        LightSails all = new LightSails();
        for (int i = 0; i < count; i++) {
            all.offer(x, y, gain, cost);
        }
        return all;
    }

    private static void sheet(Check check, LightSails x, int budget, int bound, int... due) {
        for (int what = 0; what < 5; what++) {
            check.same("sheet " + budget + " " + bound + " " + what, x.sheet(budget, bound, what), due[what]);
        }
    }

    private static LightSails to(int rho, int angle, int speed) {
        LightSails x = new LightSails();
        x.world(rho, angle, speed);
        return x;
    }

    private static LightSails worlds(int count) {
        LightSails x = new LightSails();
        for (int i = 0; i < count; i++) {
            x.world(100, 0, 3);
        }
        return x;
    }

    @Says({"An OFFER: its number;", "OFFERS of panels, numbered from 0 on, 12 at most: x, y (-20 to 20), GAIN (0 to "
        + "1,000), COST (0 to 100)."})
    static void p43EndsOfEachNumber(Check check) {
        Ends.ofArgument(check, "x", -20, 20, v -> new LightSails().offer(v, 0, 0, 0));
        Ends.ofArgument(check, "y", -20, 20, v -> new LightSails().offer(0, v, 0, 0));
        Ends.ofArgument(check, "gain", 0, 1000, v -> new LightSails().offer(0, 0, v, 0));
        Ends.ofArgument(check, "cost", 0, 100, v -> new LightSails().offer(0, 0, 0, v));
    }

    @Says("-1: there are 12.")
    static void p43TwelveOffers(Check check) {
        LightSails x = new LightSails();
        check.badArgument("a refused one", () -> x.offer(0, 0, 0, 101));
        check.same("is not there", x.count(17), 0);
        for (int i = 0; i < 12; i++) {
            check.same("offer", x.offer(0, 0, 1, 0), i);
            check.same("offers", x.count(17), i + 1);
        }
        check.same("a 13th", x.offer(0, 0, 1000, 0), -1);
        check.same("offers", x.count(17), 12);
        check.same("it is not there", x.sheet(0, 0, 1), 12);
        // The exception is told for what is none such, full or not.
        check.badArgument("a wrong 13th", () -> x.offer(0, 21, 0, 0));
        check.same("offers", x.count(17), 12);
    }

    @Says({"BEST SHEET: what 0 the set (bits), 1 its GAIN, 2 its COST, 3 and 4 its TURNS by x and y.",
        "IllegalArgumentException: BUDGET (0 to 1,200), BOUND (0 to 1,000,000), or another what."})
    static void p44EndsOfEachNumber(Check check) {
        LightSails x = offers(3, 1, 2, 3, 4);
        Ends.ofArgument(check, "budget", 0, 1200, v -> x.sheet(v, 0, 0));
        Ends.ofArgument(check, "bound", 0, 1000000, v -> x.sheet(0, v, 0));
        Ends.ofArgument(check, "what", 0, 4, v -> x.sheet(0, 0, v));
    }

    @Says("(The empty set is one.)")
    static void p44EmptySet(Check check) {
        sheet(check, new LightSails(), 0, 0, 0, 0, 0, 0, 0);
        sheet(check, new LightSails(), 1200, 1000000, 0, 0, 0, 0, 0);
        sheet(check, offers(12, 0, 0, 1000, 100), 99, 1000000, 0, 0, 0, 0, 0);
        sheet(check, offers(1, 1, 0, 1, 0), 1200, 0, 0, 0, 0, 0, 0);
        sheet(check, offers(1, 0, -1, 1, 0), 1200, 0, 0, 0, 0, 0, 0);
    }

    @Says({"A SHEET is a set of OFFERS; its TURNS: GAINS times x, and times y, together.",
        "BEST SHEET for a BUDGET and a BOUND: of all sets whose COST is BUDGET at most,"})
    static void p44AllOfAFullList(Check check) {
        LightSails x = offers(12, 20, -20, 1000, 100);
        sheet(check, x, 1200, 1000000, 4095, 12000, 1200, 240000, -240000);
        sheet(check, x, 1200, 240000, 4095, 12000, 1200, 240000, -240000);
        sheet(check, x, 1200, 239999, 2047, 11000, 1100, 220000, -220000);
        sheet(check, x, 1199, 1000000, 2047, 11000, 1100, 220000, -220000);
        sheet(check, x, 100, 1000000, 1, 1000, 100, 20000, -20000);
        sheet(check, x, 99, 1000000, 0, 0, 0, 0, 0);
        sheet(check, x, 1200, 20000, 1, 1000, 100, 20000, -20000);
        sheet(check, x, 1200, 19999, 0, 0, 0, 0, 0);
    }

    @Says("and whose TURNS are BOUND away from 0 at most, the one with the greatest GAIN;")
    static void p44BoundOnEachSide(Check check) {
        int[][] spots = {{3, 0}, {-3, 0}, {0, 3}, {0, -3}};
        for (int[] s : spots) {
            LightSails x = offers(1, s[0], s[1], 7, 0);
            sheet(check, x, 0, 20, 0, 0, 0, 0, 0);
            sheet(check, x, 0, 21, 1, 7, 0, 7 * s[0], 7 * s[1]);
        }
        // Two that turn against each other are taken together, though neither is alone.
        LightSails y = new LightSails();
        y.offer(20, 20, 1000, 1);
        y.offer(-20, -20, 1000, 1);
        sheet(check, y, 2, 0, 3, 2000, 2, 0, 0);
        sheet(check, y, 1, 0, 0, 0, 0, 0, 0);
    }

    @Says({"of these of the least COST;", "of these the first (the set with the least OFFER that is in one and not in the "
        + "other)."})
    static void p44LeastCostThenFirst(Check check) {
        LightSails cost = new LightSails();
        cost.offer(0, 0, 10, 4);
        cost.offer(0, 0, 10, 3);
        sheet(check, cost, 4, 0, 2, 10, 3, 0, 0);
        // Whichever comes first, and whichever way it turns.
        for (int side = -20; side <= 20; side += 40) {
            LightSails turning = new LightSails();
            turning.offer(side, -side, 10, 3);
            turning.offer(-side, side, 10, 4);
            sheet(check, turning, 4, 200, 1, 10, 3, 10 * side, -10 * side);
        }
        // 0 and 2, or 1 and 3 .. : the set that has the least offer which the other lacks.
        sheet(check, offers(12, 0, 0, 7, 3), 9, 0, 7, 21, 9, 0, 0);
        LightSails first = new LightSails();
        first.offer(0, 0, 1, 1);
        first.offer(0, 0, 5, 3);
        first.offer(0, 0, 5, 3);
        first.offer(0, 0, 4, 2);
        // Gain 5 for 3: offers 0 and 3, or 1, or 2.
        sheet(check, first, 3, 0, 9, 5, 3, 0, 0);
        // An offer of no gain and no cost makes a set first, if the other lacks it.
        LightSails free = new LightSails();
        free.offer(0, 0, 5, 1);
        free.offer(20, 20, 0, 0);
        sheet(check, free, 1, 0, 3, 5, 1, 0, 0);
        sheet(check, free, 0, 0, 2, 0, 0, 0, 0);
        sheet(check, offers(12, 20, 20, 0, 0), 0, 0, 4095, 0, 0, 0, 0);
        // One of no gain that costs is left out.
        sheet(check, offers(1, 0, 0, 0, 1), 1, 0, 0, 0, 0, 0, 0);
    }

    @Says({"LATE; NONE: it is never MET so.", "IllegalArgumentException: the DAYS.", "LATE by k DAYS (0 to 20):"})
    static void p45NoneTo20Days(Check check) {
        Ends.ofArgument(check, "days", 0, 20, v -> worlds(1).late(0, v));
        LightSails along = to(100, 0, 3);
        LightSails never = to(0, 0, 3);
        for (int k = 0; k <= 20; k++) {
            check.same("a world that goes along", along.late(0, k), k);
            check.same("a world too far away", never.late(0, k), -1);
        }
        check.same("late by none is least", to(100, 9, 0).late(0, 0), 3);
        check.same("nothing flew", along.count(0), 0);
    }

    @Says("int late(int world, int days) throws IndexOutOfBoundsException, IllegalArgumentException")
    static void p45NoSuchWorld(Check check) {
        check.badIndex("none", () -> new LightSails().late(0, 0));
        Ends.ofIndex(check, "world", 1, v -> worlds(1).late(v, 0));
        Ends.ofIndex(check, "world", 4, v -> worlds(4).late(v, 20));
        check.badIndex("no world and no days", () -> worlds(1).late(1, 21));
    }

    @Says("k DAYS of keep, and LEAST of the WORLD from the PLACE and the DAY that are then: how many DAYS in all.")
    static void p45SixtyDaysAtMost(Check check) {
        // From 100 to 60 takes 40 days of in, and an angle of 62; each day of keep ahead of them adds 3.
        LightSails x = to(56, 52, 0);
        for (int k = 0; k < 20; k++) {
            check.same("late by " + k, x.late(0, k), -1);
        }
        check.same("62 and 60 is 50, 2 away", x.late(0, 20), 60);
        LightSails met = to(100, 6, 0);
        int[] due = {2, 2, 2, 3 + 23, 4 + 22};
        for (int k = 0; k < due.length; k++) {
            check.same("angle 6, late by " + k, met.late(0, k), due[k]);
        }
        // Days behind 2,000 count like others.
        LightSails last = to(100, 0, 3);
        for (int i = 0; i < 10; i++) {
            last.fly(200);
        }
        check.same("day", last.count(0), 2000);
        check.same("late by 20 on day 2,000", last.late(0, 20), 20);
    }

    @Says({"WINDOW; NONE: there is none.", "WINDOW of a WORLD: the k for which that is least; of these the least."})
    static void p46FirstAndLastWindow(Check check) {
        check.same("now", to(100, 0, 3).window(0), 0);
        // Late by 0, 1 and 2 all take two days in all.
        check.same("the least of equal ones", to(100, 6, 0).window(0), 0);
        check.same("day 20 alone", to(56, 52, 0).window(0), 20);
        check.same("day 20 alone", to(56, 50, 0).window(0), 20);
        check.same("day 21 would do", to(56, 53, 0).window(0), -1);
        check.same("too far away", to(0, 0, 3).window(0), -1);
    }

    @Says("int window(int world) throws IndexOutOfBoundsException")
    static void p46NoSuchWorld(Check check) {
        check.badIndex("none", () -> new LightSails().window(0));
        Ends.ofIndex(check, "world", 1, v -> worlds(1).window(v));
        Ends.ofIndex(check, "world", 4, v -> worlds(4).window(v));
    }

    @Says("NONE for others.")
    static void p47OtherWhats(Check check) {
        for (LightSails x : new LightSails[] {new LightSails(), Things.some(), Things.full()}) {
            for (int what : new int[] {-1, -2, WHATS, WHATS + 1, 100, Integer.MIN_VALUE, Integer.MAX_VALUE}) {
                check.same("count " + what, x.count(what), -1);
            }
        }
    }

    @Says({"0 DAY, 1 RHO, 2 ANGLE, 3 PANELS, 4 FLAPS, 5 WORLDS, 6 RULES, 7 STRENGTH, 8 STEPS, 9 bytes of the TAPE, "
        + "10 whether the GOAL is MET now (1, 0), 11 COATS, 12 SIGHTS, 13 DUST told, 14 CREASES that are OPEN, 15 KNOTS, "
        + "16 STRINGS, 17 OFFERS;"})
    static void p47FullOfEverything(Check check) {
        // Twelve panels push by 450, three flaps by 119, one is torn: strength 5, steps of 2, twice out.
        LightSails x = Things.full();
        int[] due = {3, 104, 9, 16, 4, 4, 4, 5, 2, 300, 0, 5, 6, 20, 1, 6, 6, 12};
        for (int what = 0; what < WHATS; what++) {
            check.same("count " + what, x.count(what), due[what]);
        }
    }

    @Says("STRENGTH: PUSH Y for SLANT 3, by 100, cut; 0 at least, 20 at most.")
    static void p47EndsOfStrength(Check check) {
        check.same("none", new LightSails().count(7), 0);
        // An area of 115 pushes by 99, of 116 by 100; 1,000 by 866.
        int[][] rows = {{115, 1, 0}, {116, 1, 1}, {115, 2, 1}, {116, 16, 16}, {1000, 1, 8}, {1000, 2, 17}, {1000, 3, 20},
            {1000, 16, 20}, {145, 16, 20}, {144, 16, 19}};
        for (int[] row : rows) {
            LightSails x = new LightSails();
            for (int i = 0; i < row[1]; i++) {
                x.panel(0, 0, row[0], 100, 0);
            }
            check.same(row[1] + " of " + row[0], x.count(7), row[2]);
        }
    }

    @Says("STEPS at RHO: 1 and STRENGTH times 32, by (RHO and 32), cut.")
    static void p47EndsOfSteps(Check check) {
        int[][] rows = {{0, 0, 1}, {0, 1, 2}, {0, 16, 17}, {100, 4, 1}, {100, 5, 2}, {255, 8, 1}, {255, 9, 2},
            {32, 1, 1}, {32, 2, 2}, {33, 2, 1}, {1, 1, 1}, {31, 1, 1}, {255, 0, 1}};
        for (int[] row : rows) {
            LightSails x = Things.at(row[0]);
            for (int i = 0; i < row[1]; i++) {
                x.panel(0, 0, 116, 100, 0);
            }
            check.same("strength " + row[1] + " at " + row[0], x.count(8), row[2]);
        }
        LightSails most = Things.at(0);
        for (int i = 0; i < 3; i++) {
            most.panel(0, 0, 1000, 100, 0);
        }
        check.same("the most steps there are", most.count(8), 21);
    }

    @Says("MET is a WORLD on a DAY, if RHO is 4 away at most and ANGLE 2 (round), then.")
    static void p47EndsOfMet(Check check) {
        for (int rho = 94; rho <= 106; rho++) {
            for (int angle = 0; angle < 72; angle++) {
                LightSails x = to(rho, angle, 10);
                x.goal(0);
                boolean due = Math.abs(rho - 100) <= 4 && (angle <= 2 || angle >= 70);
                check.same("world at " + rho + " " + angle, x.count(10), due ? 1 : 0);
            }
        }
        int[][] atAngle69 = {{66, 0}, {67, 1}, {69, 1}, {71, 1}, {0, 0}};
        for (int[] row : atAngle69) {
            LightSails x = to(100, row[0], 0);
            x.fly(23);
            check.same("no goal", x.count(10), 0);
            x.goal(0);
            check.same("69 and " + row[0], x.count(10), row[1]);
        }
        int[][] ends = {{0, 4, 1}, {0, 5, 0}, {255, 251, 1}, {255, 250, 0}, {0, 0, 1}, {255, 255, 1}};
        for (int[] row : ends) {
            LightSails x = Things.at(row[0]);
            x.world(row[1], x.count(2), 0);
            x.goal(0);
            check.same("at " + row[0] + " world at " + row[1], x.count(10), row[2]);
        }
    }

    @Says("MET is a WORLD on a DAY, if RHO is 4 away at most and ANGLE 2 (round), then.")
    static void p47MetToday(Check check) {
        // Angle 3 and 9 on day 1: the world's angle of the day counts.
        LightSails x = to(100, 71, 10);
        x.goal(0);
        check.same("day 0: 0 and 71", x.count(10), 1);
        x.fly(1);
        check.same("day 1: 3 and 9", x.count(10), 0);
        x.goal(-1);
        check.same("no goal", x.count(10), 0);
    }

    @Says("int count(int what)")
    static void p47FullObjectsAnswerAsFull(Check check) {
        LightSails x = Things.full();
        String before = Picture.of(x);
        int[] answers = {x.panel(0, 0, 1, 1, 1), x.flap(5), x.world(1, 1, 1), x.feed(1, 2, 3, 4, 5), x.dust(0, 500),
            x.coat(1, 1), x.sight(0, 1, 1), x.knot(1, 1, true), x.string(0, 2), x.offer(1, 1, 1, 1)};
        for (int i = 0; i < answers.length; i++) {
            check.same("answer " + i, answers[i], -1);
        }
        check.yes("nothing changed", Picture.of(x).equals(before));
    }

    @Says("int count(int what)")
    static void p47RefusedCallsChangeNothing(Check check) {
        for (LightSails x : new LightSails[] {Things.some(), Things.full()}) {
            String before = Picture.of(x);
            for (Check.Call call : Refused.of(x)) {
                boolean threw = false;
                try {
                    call.answer();
                } catch (RuntimeException e) {
                    threw = true;
                }
                check.yes("it is refused", threw);
            }
            check.yes("nothing changed", Picture.of(x).equals(before));
        }
    }
}
