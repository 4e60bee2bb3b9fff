/** Promises 19 to 22, sentence by sentence: worlds, the fewest days to them, the goal; and what a day is. */
public final class P19To22Test {
    public static void main(String[] args) throws IllegalAccessException {
        Sentences.run(P19To22Test.class);
    }

    private static LightSails worlds(int count) {
        LightSails x = new LightSails();
        for (int i = 0; i < count; i++) {
            x.world(100, 10 * i, i);
        }
        return x;
    }

    private static LightSails to(int rho, int angle, int speed) {
        LightSails x = new LightSails();
        x.world(rho, angle, speed);
        return x;
    }

    @Says({"A WORLD: its number;", "PLACE: RHO (0 to 255) and ANGLE (0 to 71).",
        "RHO, ANGLE on DAY 0, SPEED (0 to 10):"})
    static void p19EndsOfEachNumber(Check check) {
        Ends.ofArgument(check, "rho", 0, 255, v -> new LightSails().world(v, 0, 0));
        Ends.ofArgument(check, "angle", 0, 71, v -> new LightSails().world(0, v, 0));
        Ends.ofArgument(check, "speed", 0, 10, v -> new LightSails().world(0, 0, v));
    }

    @Says({"-1: there are 4.", "WORLDS, numbered from 0 on, 4 at most:"})
    static void p19FourWorlds(Check check) {
        LightSails x = new LightSails();
        for (int i = 0; i < 4; i++) {
            check.same("world", x.world(10 * i, i, 0), i);
            check.same("worlds", x.count(5), i + 1);
        }
        check.same("a fifth", x.world(50, 50, 5), -1);
        check.same("worlds", x.count(5), 4);
        check.same("the last is as it was", x.angle(3, 0), 3);
        check.badIndex("no fifth", () -> x.angle(4, 0));
    }

    @Says("int world(int rho, int angle, int speed) throws IllegalArgumentException")
    static void p19RefusedWorldIsNotThere(Check check) {
        LightSails x = worlds(1);
        check.badArgument("speed 11", () -> x.world(0, 0, 11));
        check.same("worlds", x.count(5), 1);
        check.same("the next has the next number", x.world(0, 0, 0), 1);
        // The exception is told for what is none such, full or not.
        LightSails full = worlds(4);
        check.badArgument("a wrong fifth", () -> full.world(256, 0, 0));
    }

    @Says("ANGLE of a WORLD on a DAY (0 to 3,000).")
    static void p20EndsOfDay(Check check) {
        LightSails x = to(0, 71, 10);
        Ends.ofArgument(check, "day", 0, 3000, v -> x.angle(0, v));
        check.same("day 0", x.angle(0, 0), 71);
        // 71 and 30,000 is 417 times 72 and 47.
        check.same("day 3,000", x.angle(0, 3000), 47);
    }

    @Says("on DAY d the ANGLE is SPEED times d more (by 72 what is left).")
    static void p20WrapsAt72(Check check) {
        LightSails x = to(0, 71, 1);
        check.same("71", x.angle(0, 0), 71);
        check.same("72 is 0", x.angle(0, 1), 0);
        check.same("143 is 71", x.angle(0, 72), 71);
        check.same("144 is 0", x.angle(0, 73), 0);
        LightSails still = to(0, 5, 0);
        check.same("speed 0", still.angle(0, 3000), 5);
        LightSails fast = to(0, 2, 10);
        check.same("72 is 0", fast.angle(0, 7), 0);
        // The day of the sail does not matter.
        fast.fly(5);
        check.same("day 0 still", fast.angle(0, 0), 2);
    }

    @Says("IndexOutOfBoundsException: no such WORLD (so below).")
    static void p20NoSuchWorld(Check check) {
        check.badIndex("none", () -> new LightSails().angle(0, 0));
        Ends.ofIndex(check, "world", 1, v -> worlds(1).angle(v, 0));
        Ends.ofIndex(check, "world", 4, v -> worlds(4).angle(v, 0));
        // No such world comes ahead of a day that is none such, as the face has them.
        check.badIndex("no world and no day", () -> worlds(1).angle(1, 3001));
    }

    @Says({"LEAST: what -1 the fewest DAYS, or the k-th STEER (0 to 39) of the first such row; NONE.",
        "IllegalArgumentException: another what."})
    static void p21EndsOfWhat(Check check) {
        Ends.ofArgument(check, "what", -1, 39, v -> worlds(1).least(0, v));
        LightSails now = worlds(1);
        check.same("no day is needed", now.least(0, -1), 0);
        check.same("so there is no steer", now.least(0, 0), -1);
        check.same("nor a last one", now.least(0, 39), -1);
        // Two days of any steer lead to angle 6.
        LightSails two = to(100, 6, 0);
        int[] due = {2, 0, 0, -1, -1};
        for (int what = -1; what < 4; what++) {
            check.same("what " + what, two.least(0, what), due[what + 1]);
        }
    }

    @Says("int least(int world, int what) throws IndexOutOfBoundsException, IllegalArgumentException")
    static void p21NoSuchWorld(Check check) {
        check.badIndex("none", () -> new LightSails().least(0, -1));
        Ends.ofIndex(check, "world", 1, v -> worlds(1).least(v, -1));
        Ends.ofIndex(check, "world", 4, v -> worlds(4).least(v, 0));
        check.badIndex("no world and another what", () -> worlds(1).least(1, 40));
        check.badIndex("no world and another what", () -> worlds(1).least(-1, -2));
    }

    @Says({"the fewest DAYS (0 to 40) behind which it is MET by some STEERS that can be;", "There may be none."})
    static void p21FortyDaysAtMost(Check check) {
        // From 100 by steps of 1 it takes 40 days to 60, and the angle goes on by 134, which is 62 (once round).
        LightSails forty = to(56, 64, 0);
        check.same("2 away", forty.least(0, -1), 40);
        for (int k = 0; k < 40; k++) {
            check.same("in on day " + k, forty.least(0, k), 0);
        }
        check.same("2 away, the other side", to(56, 60, 0).least(0, -1), 40);
        LightSails beside = to(56, 65, 0);
        check.same("3 away: 41 days", beside.least(0, -1), -1);
        check.same("no steer", beside.least(0, 0), -1);
        check.same("no last steer", beside.least(0, 39), -1);
        check.same("3 away, the other side", to(56, 59, 0).least(0, -1), -1);
        for (int angle = 0; angle < 72; angle++) {
            check.same("rho 55, angle " + angle, to(55, angle, 0).least(0, -1), -1);
        }
    }

    @Says("of all such rows the first (DAY by DAY the least STEER).")
    static void p21FirstRow(Check check) {
        // One day leads to angle 3: in, keep and out all do.
        check.same("in", to(100, 4, 0).least(0, 0), 0);
        // 104 is 5 away from 99, so in does not do.
        check.same("keep", to(104, 4, 0).least(0, 0), 1);
        check.same("out", to(105, 4, 0).least(0, 0), 2);
        check.same("one day", to(105, 4, 0).least(0, -1), 1);
        // Two days to angle 6 and to 101 at least: in and out is too low; keep and out does, and so does out and keep.
        LightSails x = to(105, 7, 0);
        check.same("two days", x.least(0, -1), 2);
        check.same("keep first", x.least(0, 0), 1);
        check.same("then out", x.least(0, 1), 2);
        // The same with a world that comes by: 58 and 20 is 6 on day 2.
        LightSails y = to(105, 58, 10);
        check.same("two days", y.least(0, -1), 2);
        check.same("keep first", y.least(0, 0), 1);
        check.same("then out", y.least(0, 1), 2);
        // A world that was behind: 64 and 10 is 2 on day 1.
        LightSails z = to(105, 64, 10);
        check.same("a day", z.least(0, -1), 1);
        check.same("out", z.least(0, 0), 2);
    }

    @Says("the fewest DAYS (0 to 40) behind which it is MET by some STEERS that can be;")
    static void p21EachAngle(Check check) {
        for (int angle = 0; angle < 72; angle++) {
            // By 3 a day: n days lead to 3 n, which is 2 away at most first for angle / 3, cut; 70 is near to 0 already.
            int due = angle >= 70 ? 0 : angle / 3;
            check.same("angle " + angle, to(100, angle, 0).least(0, -1), due);
        }
    }

    @Says({"STEER 0 (in): RHO is STEPS less, 2 (out): STEPS more, 1 (keep): as it was; if that is not 0 to 255 it can't be.",
        "LEAST of a WORLD from the PLACE and DAY that are, as STRENGTH is:"})
    static void p21SteersThatCantBe(Check check) {
        // At 0 the angle goes on by 11 a day.
        LightSails x = Things.at(0);
        int angle = x.count(2);
        x.world(0, (angle + 11) % 72, 0);
        check.same("a day", x.least(0, -1), 1);
        check.same("in can't be at 0", x.least(0, 0), 1);
        // At 1, 0 can be.
        LightSails y = Things.at(1);
        y.world(0, (y.count(2) + 10) % 72, 0);
        check.same("a day", y.least(0, -1), 1);
        check.same("in can be at 1", y.least(0, 0), 0);
        // By 10 to 0, then by 11: 21 in two days; by way of 1 or 2 it is 20, which is 3 away.
        LightSails through = Things.at(1);
        through.world(0, (through.count(2) + 23) % 72, 0);
        check.same("two days", through.least(0, -1), 2);
        check.same("in", through.least(0, 0), 0);
        check.same("keep, as in can't be at 0", through.least(0, 1), 1);
        // At 255 in is the least all the same.
        LightSails z = Things.at(255);
        z.world(255, (z.count(2) + 2 + 2) % 72, 0);
        check.same("a day", z.least(0, -1), 1);
        check.same("in", z.least(0, 0), 0);
    }

    @Says("LEAST of a WORLD from the PLACE and DAY that are, as STRENGTH is:")
    static void p21AsStrengthIs(Check check) {
        // Strength 20 makes steps of 5 at 100: 105 is 4 away from 109.
        LightSails x = new LightSails();
        for (int i = 0; i < 3; i++) {
            x.panel(0, 0, 1000, 100, 0);
        }
        x.world(109, 5, 0);
        check.same("a step of 5", x.least(0, -1), 1);
        check.same("out", x.least(0, 0), 2);
        for (int i = 0; i < 3; i++) {
            x.tear(i);
        }
        // Steps of 1 need five days; then angles 3 to 7 went by, and come again with day 25.
        check.same("steps of 1", x.least(0, -1), 25);
        LightSails y = to(100, 9, 0);
        check.same("from day 0", y.least(0, -1), 3);
        y.fly(1);
        check.same("from day 1", y.least(0, -1), 2);
        y.fly(2);
        check.same("from day 3", y.least(0, -1), 0);
    }

    @Says({"The GOAL (NONE: none): what it was.", "(a WORLD; NONE at first: 0)"})
    static void p22WhatItWas(Check check) {
        LightSails x = worlds(4);
        check.same("none at first", x.goal(0), -1);
        check.same("0", x.goal(3), 0);
        check.same("3", x.goal(3), 3);
        check.same("3", x.goal(-1), 3);
        check.same("none", x.goal(-1), -1);
        check.same("none with no worlds", new LightSails().goal(-1), -1);
    }

    @Says("int goal(int world) throws IndexOutOfBoundsException")
    static void p22NoSuchWorld(Check check) {
        check.badIndex("no world 0", () -> new LightSails().goal(0));
        for (int world : new int[] {-2, 4, Integer.MIN_VALUE, Integer.MAX_VALUE}) {
            LightSails x = worlds(4);
            x.goal(2);
            check.badIndex("goal " + world, () -> x.goal(world));
            check.same("it stays", x.goal(0), 2);
        }
        check.badIndex("a world that is not there yet", () -> worlds(1).goal(1));
    }
}
