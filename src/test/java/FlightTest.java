/** Promises 27 to 29: dust, flying day by day, notes. */
public final class FlightTest {
    private static final Check CHECK = new Check();

    public static void main(String[] args) {
        testDust();
        testDustTears();
        testFlyEdges();
        testNotes();
        testSteering();
        testEndsOfRho();
        testStops();
        testWarmth();
        testWarmthEnds();
        testAge();
        testTornPanelsRest();
        testStrengthOfTheDay();
        CHECK.end("FlightTest");
    }

    private static void testDust() {
        LightSails x = new LightSails();
        CHECK.noElement("no panel", () -> x.dust(0, -1));
        x.panel(0, 0, 100, 50, 50);
        CHECK.noElement("no panel 1", () -> x.dust(1, 0));
        CHECK.noElement("no panel -1", () -> x.dust(-1, 0));
        CHECK.badArgument("day -1", () -> x.dust(0, -1));
        CHECK.badArgument("day 2000", () -> x.dust(0, 2000));
        CHECK.same("none told", x.count(13), 0);
        x.fly(3);
        CHECK.badArgument("a day that went by", () -> x.dust(0, 2));
        CHECK.same("today", x.dust(0, 3), 1);
        CHECK.same("the last day", x.dust(0, 1999), 2);
        for (int i = 3; i <= 20; i++) {
            CHECK.same("dust " + i, x.dust(0, 50), i);
        }
        CHECK.same("one more", x.dust(0, 50), -1);
        CHECK.badArgument("a wrong one more", () -> x.dust(0, 2000));
        CHECK.same("told", x.count(13), 20);
        x.fly(60);
        CHECK.same("told, though it fell", x.count(13), 20);
        CHECK.same("none more", x.dust(0, 100), -1);
    }

    private static void testDustTears() {
        LightSails x = new LightSails();
        for (int i = 0; i < 3; i++) {
            x.panel(0, 0, 100, 50, 50);
        }
        x.panel(0, 0, 100, 50, 50);
        x.dust(1, 2);
        x.dust(2, 2);
        x.dust(0, 4);
        CHECK.same("day 0", x.dust(3, 0), 4);
        CHECK.no("nothing tore yet", x.of(3, 2) == 1);
        int[][] due = {{0, 0, 0}, {0, 0, 0}, {0, 1, 1}, {0, 1, 1}, {1, 1, 1}};
        for (int day = 0; day < 5; day++) {
            x.fly(1);
            CHECK.same("panel 3", x.of(3, 2), 1);
            for (int i = 0; i < 3; i++) {
                CHECK.same("panel " + i + " behind day " + day, x.of(i, 2), due[day][i]);
            }
        }
    }

    private static void testFlyEdges() {
        LightSails x = new LightSails();
        CHECK.badArgument("201", () -> x.fly(201));
        CHECK.badArgument("-1", () -> x.fly(-1));
        CHECK.badArgument("least", () -> x.fly(Integer.MIN_VALUE));
        CHECK.same("0", x.fly(0), 0);
        CHECK.same("day", x.count(0), 0);
        for (int i = 0; i < 9; i++) {
            CHECK.same("200", x.fly(200), 200);
        }
        CHECK.same("199", x.fly(199), 199);
        CHECK.badState("2 more", () -> x.fly(2));
        CHECK.badState("200 more", () -> x.fly(200));
        CHECK.badArgument("201 more", () -> x.fly(201));
        CHECK.same("nothing flew", x.count(0), 1999);
        CHECK.same("the last", x.fly(1), 1);
        CHECK.same("none", x.fly(0), 0);
        CHECK.badState("one beyond", () -> x.fly(1));
        CHECK.same("day", x.count(0), 2000);
        CHECK.same("angle", x.count(2), 2000 * 3 % 72);
        x.panel(0, 0, 1, 0, 0);
        CHECK.badArgument("no day is left for dust", () -> x.dust(0, 1999));
        CHECK.same("the last note", x.note(1999, 2), 2000 * 3 % 72);
        CHECK.same("no note of day 2000", x.note(2000, 2), -1);
    }

    private static void testNotes() {
        LightSails x = new LightSails();
        CHECK.same("none at first", x.note(0, 0), -1);
        CHECK.badArgument("what 4", () -> x.note(0, 4));
        CHECK.badArgument("what -1", () -> x.note(0, -1));
        x.fly(64);
        CHECK.same("day 0 is kept", x.note(0, 2), 3);
        CHECK.same("day 63", x.note(63, 2), 64 * 3 % 72);
        CHECK.same("day 64 is not flown", x.note(64, 2), -1);
        x.fly(1);
        CHECK.same("day 0 is not kept", x.note(0, 2), -1);
        CHECK.same("day 1 is", x.note(1, 2), 6);
        CHECK.same("day 64", x.note(64, 2), 65 * 3 % 72);
        CHECK.badArgument("what 4", () -> x.note(0, 4));
        int[] out = {-1, Integer.MIN_VALUE, Integer.MAX_VALUE, 65, -64};
        for (int day : out) {
            CHECK.same("day " + day, x.note(day, 0), -1);
        }
    }

    private static void testSteering() {
        LightSails x = new LightSails();
        x.panel(0, 0, 1000, 100, 0);
        Texts.tell(x, "out if day<2;in if day>3;");
        x.fly(6);
        // Strength 8: steps are 2 at 100, 1 + 256 / 134 = 2, 1 + 256 / 136 = 2.
        int[] steers = {2, 2, 1, 1, 0, 0};
        int[] rhos = {102, 104, 104, 104, 102, 100};
        int[] angles = {3, 6, 9, 12, 15, 18};
        for (int day = 0; day < 6; day++) {
            CHECK.same("steer of " + day, x.note(day, 0), steers[day]);
            CHECK.same("rho of " + day, x.note(day, 1), rhos[day]);
            CHECK.same("angle of " + day, x.note(day, 2), angles[day]);
            CHECK.same("strength of " + day, x.note(day, 3), 8);
        }
        // The angle goes on by the rho ahead of the day: 1 + 320 / 132 is 3, 1 + 320 / 192 is 2.
        LightSails y = new LightSails();
        Texts.tell(y, "out if 1=1;");
        y.fly(29);
        CHECK.same("rho 129", y.count(1), 129);
        int before = y.count(2);
        y.fly(1);
        CHECK.same("by 2 at 129", y.count(2), (before + 2) % 72);
        LightSails z = new LightSails();
        Texts.tell(z, "out if 1=1;");
        z.fly(28);
        int then = z.count(2);
        z.fly(1);
        CHECK.same("by 3 at 128", z.count(2), (then + 3) % 72);
    }

    /** What can't be is keep. */
    private static void testEndsOfRho() {
        LightSails x = new LightSails();
        Texts.tell(x, "in if 1=1;");
        x.fly(100);
        CHECK.same("at 0", x.count(1), 0);
        CHECK.same("in came last", x.note(99, 0), 0);
        CHECK.same("still asked", x.asks(), 0);
        x.fly(1);
        CHECK.same("still at 0", x.count(1), 0);
        CHECK.same("it was keep", x.note(100, 0), 1);
        int angle = x.count(2);
        x.fly(1);
        CHECK.same("by 11 at 0", x.count(2), (angle + 11) % 72);
        Texts.tell(x, "out if 1=1;");
        x.fly(200);
        x.fly(55);
        CHECK.same("at 255", x.count(1), 255);
        x.fly(1);
        CHECK.same("still at 255", x.count(1), 255);
        CHECK.same("it was keep", x.note(x.count(0) - 1, 0), 1);
        LightSails y = new LightSails();
        for (int i = 0; i < 3; i++) {
            y.panel(0, 0, 1000, 100, 0);
        }
        Texts.tell(y, "out if 1=1;");
        y.fly(60);
        // Steps are 3 at 253, so 253 stays.
        CHECK.same("a step too wide", y.note(59, 0), 1);
        CHECK.yes("near the end", y.count(1) > 250 && y.count(1) <= 255);
    }

    private static void testStops() {
        LightSails x = new LightSails();
        x.world(100, 0, 3);
        x.goal(0);
        CHECK.same("met ahead of the day", x.count(10), 1);
        CHECK.same("a day flies all the same", x.fly(5), 1);
        CHECK.same("day", x.count(0), 1);
        CHECK.same("none", x.fly(0), 0);
        x.world(100, 30, 0);
        x.goal(1);
        // Angle 3 now, 28 or more is due: nine days more lead to 30.
        CHECK.same("nine days", x.fly(200), 9);
        CHECK.same("met", x.count(10), 1);
        x.goal(-1);
        CHECK.same("no goal, no stop", x.fly(30), 30);
        // The world stands at 10 a day, so only behind the day it is met.
        LightSails y = new LightSails();
        y.world(100, 65, 10);
        y.goal(0);
        CHECK.same("met at 3 by 75", y.fly(1), 1);
        CHECK.same("met", y.count(10), 1);
        CHECK.same("it goes", y.fly(1), 1);
        CHECK.same("not met", y.count(10), 0);
    }

    private static void testWarmth() {
        LightSails x = new LightSails();
        x.panel(0, 0, 1000, 0, 100);
        int[] curls = {0, 0, 0, 0, 1, 1, 1, 1, 1, 2, 2, 2, 2, 2, 2, 2};
        for (int day = 0; day < curls.length; day++) {
            x.fly(1);
            CHECK.same("curl behind " + day, x.of(0, 3), curls[day]);
            CHECK.same("warm days behind " + day, x.of(0, 4), (day + 1) % 5);
        }
        CHECK.same("push by curl 2", x.push(0, 0), 940);
        CHECK.same("push by curl 2", x.push(-2, 0), 1000);
        CHECK.same("push by curl 2, at the end", x.push(8, 0), 174);
        CHECK.same("push by curl 2, at the other end", x.push(-8, 0), 500);
    }

    /** 21 is warm, 20 not; a day that is not warm begins anew; the rho behind the day counts. */
    private static void testWarmthEnds() {
        // At 100: 87 * 3200 / 132 = 2109, so 21; 86 * 3200 / 132 = 2084, so 20.
        LightSails x = new LightSails();
        x.panel(0, 0, 1, 0, 87);
        x.panel(0, 0, 1, 0, 86);
        x.fly(1);
        CHECK.same("87 is warm", x.of(0, 4), 1);
        CHECK.same("86 is not", x.of(1, 4), 0);
        // At 99, 86 * 3200 / 131 = 2100, so 21.
        Texts.tell(x, "in if day=1;out if day=4;in if day=5;");
        x.fly(3);
        CHECK.same("warm at 99", x.of(1, 4), 3);
        x.fly(1);
        CHECK.same("back at 100", x.of(1, 4), 0);
        CHECK.same("its curl", x.of(1, 3), 0);
        CHECK.same("the other curls", x.of(0, 3), 1);
        x.fly(1);
        CHECK.same("warm anew", x.of(1, 4), 1);
    }

    private static void testAge() {
        LightSails x = new LightSails();
        x.panel(0, 0, 1, 2, 10);
        x.panel(0, 0, 1, 0, 10);
        x.panel(0, 0, 1, 100, 0);
        x.fly(9);
        CHECK.same("nine days", x.of(0, 0), 2);
        x.fly(1);
        CHECK.same("ten days, back", x.of(0, 0), 1);
        CHECK.same("ten days, kept", x.of(0, 1), 11);
        CHECK.same("back 0 stays", x.of(1, 0), 0);
        CHECK.same("kept 10 stays", x.of(1, 1), 10);
        x.fly(20);
        CHECK.same("no more than 0", x.of(0, 0), 0);
        CHECK.same("kept 12", x.of(0, 1), 12);
        CHECK.same("the whole coat ages", x.of(2, 0), 97);
        CHECK.same("the whole coat ages", x.of(2, 1), 3);
    }

    private static void testTornPanelsRest() {
        LightSails x = new LightSails();
        x.panel(0, 0, 1, 5, 95);
        x.panel(0, 0, 1, 5, 95);
        x.fly(3);
        x.dust(0, 3);
        x.fly(10);
        CHECK.same("warm days of the torn one stay", x.of(0, 4), 3);
        CHECK.same("its curl", x.of(0, 3), 0);
        CHECK.same("its back", x.of(0, 0), 5);
        CHECK.same("warm days of the other", x.of(1, 4), 3);
        CHECK.same("its curl", x.of(1, 3), 2);
        CHECK.same("its back", x.of(1, 0), 4);
    }

    /** The strength ahead of a day is noted and steers; what tears or curls then counts from the next day on. */
    private static void testStrengthOfTheDay() {
        LightSails x = new LightSails();
        x.panel(0, 0, 1000, 100, 0);
        x.panel(0, 0, 1000, 100, 0);
        x.dust(1, 1);
        x.fly(3);
        int[] due = {17, 17, 8};
        for (int day = 0; day < 3; day++) {
            CHECK.same("strength of " + day, x.note(day, 3), due[day]);
        }
        CHECK.same("strength now", x.count(7), 8);
        x.panel(0, 0, 1000, 100, 0);
        x.panel(0, 0, 1000, 100, 0);
        CHECK.same("20 at most", x.count(7), 20);
        CHECK.same("steps", x.count(8), 1 + 20 * 32 / 132);
    }
}
