/** Promises 27 to 29, sentence by sentence: dust, days that are flown, notes. */
public final class P27To29Test {
    public static void main(String[] args) throws IllegalAccessException {
        Sentences.run(P27To29Test.class);
    }

    private static LightSails panels(int count) {
        LightSails x = new LightSails();
        for (int i = 0; i < count; i++) {
            x.panel(0, 0, 10, 50, 50);
        }
        return x;
    }

    private static LightSails coated(int back, int kept) {
        LightSails x = new LightSails();
        x.panel(0, 0, 1, back, kept);
        return x;
    }

    /** A sail that went on to that day, keeping its place. */
    private static LightSails onDay(int day) {
        LightSails x = panels(1);
        for (int left = day; left > 0; left -= 200) {
            x.fly(Math.min(200, left));
        }
        return x;
    }

    private static LightSails steered(String text) {
        LightSails x = new LightSails();
        Texts.tell(x, text);
        return x;
    }

    @Says({"DUST is told for a PANEL and a DAY (0 to 1,999): how many are told;",
        "IllegalArgumentException: the DAY, or it went by."})
    static void p27EndsOfDay(Check check) {
        Ends.ofArgument(check, "day", 0, 1999, v -> panels(1).dust(0, v));
        LightSails x = onDay(7);
        Ends.ofArgument(check, "day of day 7", 7, 1999, v -> onDay(7).dust(0, v));
        check.badArgument("day 0 went by", () -> x.dust(0, 0));
        check.badArgument("day 6 went by", () -> x.dust(0, 6));
        check.same("nothing is told yet", x.count(13), 0);
        check.same("today", x.dust(0, 7), 1);
    }

    @Says("IllegalArgumentException: the DAY, or it went by.")
    static void p27LastDays(Check check) {
        LightSails x = onDay(1999);
        check.badArgument("day 1,998 went by", () -> x.dust(0, 1998));
        check.same("day 1,999 is today", x.dust(0, 1999), 1);
        check.badArgument("no day 2,000", () -> x.dust(0, 2000));
        x.fly(1);
        check.same("it tore", x.of(0, 2), 1);
        check.badArgument("day 1,999 went by", () -> x.dust(0, 1999));
        check.badArgument("no day 2,000", () -> x.dust(0, 2000));
        check.same("told", x.count(13), 1);
    }

    @Says("-1: there are 20.")
    static void p27TwentyTold(Check check) {
        LightSails x = panels(2);
        for (int i = 1; i <= 20; i++) {
            check.same("dust", x.dust(0, 5), i);
            check.same("told", x.count(13), i);
        }
        check.same("one more", x.dust(1, 5), -1);
        check.same("one more for another day", x.dust(1, 6), -1);
        check.same("told", x.count(13), 20);
        x.fly(10);
        check.same("what was told tears", x.of(0, 2), 1);
        check.same("what was not does not", x.of(1, 2), 0);
        // "how many are told": what fell was told, too.
        check.same("told", x.count(13), 20);
        check.same("none more", x.dust(1, 50), -1);
        // The exceptions are told for what is none such, full or not.
        check.badArgument("a wrong day, full", () -> x.dust(0, 2000));
        check.badArgument("a day that went by, full", () -> x.dust(0, 5));
        check.noElement("no panel, full", () -> x.dust(2, 50));
    }

    @Says("DUST is told for a PANEL and a DAY (0 to 1,999): how many are told;")
    static void p27ToldTwiceCountsTwice(Check check) {
        LightSails x = panels(1);
        check.same("once", x.dust(0, 5), 1);
        check.same("twice", x.dust(0, 5), 2);
        x.tear(0);
        check.same("for a torn panel", x.dust(0, 5), 3);
    }

    @Says("int dust(int panel, int day) throws NoSuchElementException, IllegalArgumentException")
    static void p27NoSuchPanel(Check check) {
        check.noElement("none", () -> new LightSails().dust(0, 0));
        Ends.ofElement(check, "panel", 1, v -> panels(1).dust(v, 0));
        Ends.ofElement(check, "panel", 16, v -> panels(16).dust(v, 0));
        // No such panel comes ahead of the day, as the face has them.
        check.noElement("no panel and no day", () -> panels(1).dust(1, 2000));
        LightSails x = panels(1);
        check.noElement("panel 1", () -> x.dust(1, 0));
        check.same("nothing is told", x.count(13), 0);
    }

    @Says({"So many DAYS are FLOWN, fewer if it STOPS: how many.", "IllegalArgumentException: they are not 0 to 200;"})
    static void p28NoneTo200Days(Check check) {
        Ends.ofArgument(check, "days", 0, 200, v -> new LightSails().fly(v));
        LightSails x = panels(1);
        check.same("none", x.fly(0), 0);
        check.same("day", x.count(0), 0);
        check.same("angle", x.count(2), 0);
        check.same("200", x.fly(200), 200);
        check.same("day", x.count(0), 200);
        check.badArgument("201", () -> x.fly(201));
        check.badArgument("-1", () -> x.fly(-1));
        check.same("nothing flew", x.count(0), 200);
    }

    @Says({"IllegalStateException: DAY would be above 2,000.", "The DAY is over (one more; 2,000 at most)."})
    static void p28Day2000(Check check) {
        LightSails x = onDay(1800);
        check.same("up to 2,000 at once", x.fly(200), 200);
        check.same("day", x.count(0), 2000);
        check.badState("one more", () -> x.fly(1));
        check.same("none more", x.fly(0), 0);
        check.same("day", x.count(0), 2000);
        LightSails y = onDay(1999);
        for (int days : new int[] {2, 3, 200}) {
            check.badState("fly " + days, () -> y.fly(days));
            check.same("nothing flew", y.count(0), 1999);
            check.same("nothing flew", y.note(1999, 0), -1);
        }
        // The argument comes ahead of the state, as the face has them.
        check.badArgument("201", () -> y.fly(201));
        check.badArgument("-1", () -> y.fly(-1));
        check.same("the last day", y.fly(1), 1);
    }

    @Says("IllegalStateException: DAY would be above 2,000.")
    static void p28Day2000ThoughItWouldStop(Check check) {
        // So many days as are told would lead above 2,000, though the goal is met behind the first of them.
        LightSails x = onDay(1999);
        x.world(100, 2000 * 3 % 72, 0);
        x.goal(0);
        check.badState("fly 2", () -> x.fly(2));
        check.same("fly 1", x.fly(1), 1);
        check.same("met", x.count(10), 1);
    }

    @Says({"FLOWN is a DAY so: the first RULE that holds tells STEER (none: keep);", "A DAY: STEER 0 (in): RHO is STEPS less, 2 (out): STEPS "
        + "more, 1 (keep): as it was;"})
    static void p28SteerOfTheDay(Check check) {
        LightSails x = steered("out if day=0;in if day<2;keep if day=3;in if day=3;");
        x.fly(4);
        int[] steers = {2, 0, 1, 1};
        int[] rhos = {101, 100, 100, 100};
        for (int day = 0; day < 4; day++) {
            check.same("steer of " + day, x.note(day, 0), steers[day]);
            check.same("rho of " + day, x.note(day, 1), rhos[day]);
        }
    }

    @Says({"if that can't be, keep.", "if that is not 0 to 255 it can't be."})
    static void p28EndsOfRho(Check check) {
        LightSails in = steered("in if 1=1;");
        check.same("fly", in.fly(99), 99);
        check.same("at 1", in.count(1), 1);
        in.fly(1);
        check.same("0 can be", in.count(1), 0);
        check.same("it was in", in.note(99, 0), 0);
        in.fly(1);
        check.same("-1 can't be", in.count(1), 0);
        check.same("it was keep", in.note(100, 0), 1);
        LightSails out = steered("out if 1=1;");
        check.same("fly", out.fly(154), 154);
        check.same("at 254", out.count(1), 254);
        out.fly(1);
        check.same("255 can be", out.count(1), 255);
        check.same("it was out", out.note(154, 0), 2);
        out.fly(1);
        check.same("256 can't be", out.count(1), 255);
        check.same("it was keep", out.note(155, 0), 1);
    }

    @Says("if that can't be, keep.")
    static void p28StepsTooWideForTheEnd(Check check) {
        // Strength 8: steps of 1 + 256 / (rho + 32) grow to 9 at 0, so some rho above 0 is the last.
        LightSails x = new LightSails();
        x.panel(0, 0, 1000, 100, 0);
        Texts.tell(x, "in if 1=1;");
        x.fly(60);
        int rho = x.count(1);
        check.yes("it stopped above 0", rho > 0 && rho < 9);
        check.yes("the step is wider", x.count(8) > rho);
        check.same("it is keep, not a narrower step", x.note(59, 0), 1);
        check.same("asked is in all the same", x.asks(), 0);
    }

    @Says("ANGLE goes on by 1 and 320 by (RHO ahead of it and 32), cut (72 is 0).")
    static void p28AngleGoesOn(Check check) {
        int[][] rows = {{0, 11}, {1, 10}, {75, 3}, {74, 4}, {100, 3}, {128, 3}, {129, 2}, {255, 2}};
        for (int[] row : rows) {
            LightSails x = Things.at(row[0]);
            int angle = x.count(2);
            x.fly(1);
            check.same("at " + row[0], x.count(2), (angle + row[1]) % 72);
        }
        // By the rho ahead of the day: out from 128 to 129 still goes on by 3.
        LightSails y = Things.at(128);
        int angle = y.count(2);
        Texts.tell(y, "out if 1=1;");
        y.fly(1);
        check.same("out from 128", y.count(2), (angle + 3) % 72);
        LightSails z = new LightSails();
        z.fly(23);
        check.same("69", z.count(2), 69);
        z.fly(1);
        check.same("72 is 0", z.count(2), 0);
    }

    @Says({"PLACE goes on.", "DUST told for that DAY tears its PANELS."})
    static void p28DustOfTheDay(Check check) {
        LightSails x = panels(3);
        x.dust(0, 0);
        x.dust(1, 1);
        x.dust(2, 1);
        check.same("told is not torn", x.of(0, 2), 0);
        x.fly(1);
        check.same("behind day 0", x.of(0, 2), 1);
        check.same("not yet", x.of(1, 2), 0);
        x.fly(1);
        check.same("behind day 1", x.of(1, 2), 1);
        check.same("behind day 1, too", x.of(2, 2), 1);
    }

    @Says("Then each PANEL that is not TORN:")
    static void p28TornPanelsRest(Check check) {
        // Torn by dust of day 9, it neither ages on it nor counts as warm; what it had stays.
        LightSails x = new LightSails();
        x.panel(0, 0, 1, 5, 95);
        x.panel(0, 0, 1, 5, 95);
        x.dust(0, 9);
        x.fly(9);
        check.same("four days warm", x.of(0, 4), 4);
        check.same("curl", x.of(0, 3), 1);
        x.fly(1);
        int[] torn = {5, 95, 1, 1, 4};
        int[] whole = {4, 96, 0, 2, 0};
        for (int what = 0; what < 5; what++) {
            check.same("of the torn one " + what, x.of(0, what), torn[what]);
            check.same("of the other " + what, x.of(1, what), whole[what]);
        }
        x.fly(20);
        for (int what = 0; what < 5; what++) {
            check.same("of the torn one later " + what, x.of(0, what), torn[what]);
        }
    }

    @Says("it is WARM, if KEPT times 100 times 32, by (RHO now and 32), cut, by 100, cut, is above 20;")
    static void p28WarmAbove20(Check check) {
        // By rho: the most of kept that is not warm. At 255 even 100 is at 11.
        int[][] rows = {{0, 20}, {1, 21}, {32, 41}, {99, 85}, {100, 86}, {120, 99}};
        for (int[] row : rows) {
            LightSails x = Things.at(row[0]);
            x.panel(0, 0, 1, 0, row[1]);
            x.panel(0, 0, 1, 0, row[1] + 1);
            x.fly(1);
            check.same("kept " + row[1] + " at " + row[0], x.of(0, 4), 0);
            check.same("kept " + (row[1] + 1) + " at " + row[0], x.of(1, 4), 1);
        }
        for (int rho : new int[] {121, 255}) {
            LightSails x = Things.at(rho);
            x.panel(0, 0, 1, 0, 100);
            x.fly(1);
            check.same("kept 100 at " + rho, x.of(0, 4), 0);
        }
    }

    @Says("(RHO now and 32)")
    static void p28WarmByRhoNow(Check check) {
        // 86 is warm at 99, not at 100: the rho behind the day's way counts.
        LightSails x = coated(0, 86);
        Texts.tell(x, "in if day=1;out if day=3;");
        int[] due = {0, 1, 2, 0, 0};
        for (int day = 0; day < due.length; day++) {
            x.fly(1);
            check.same("behind day " + day, x.of(0, 4), due[day]);
        }
    }

    @Says("when it was WARM for 5 DAYS on end, CURL is 1 more (2 at most), and they are counted anew;")
    static void p28CurlsByFiveDays(Check check) {
        LightSails x = coated(0, 100);
        for (int day = 1; day <= 25; day++) {
            x.fly(1);
            check.same("warm days behind " + day, x.of(0, 4), day % 5);
            check.same("curl behind " + day, x.of(0, 3), Math.min(2, day / 5));
        }
        // Four days, one that is not warm, and four more make no curl.
        LightSails y = coated(0, 86);
        Texts.tell(y, "in if day=0;out if day=4;in if day=5;");
        y.fly(4);
        check.same("four days", y.of(0, 4), 4);
        y.fly(1);
        check.same("one that is not warm", y.of(0, 4), 0);
        y.fly(4);
        check.same("four days more", y.of(0, 4), 4);
        check.same("no curl", y.of(0, 3), 0);
        y.fly(1);
        check.same("the fifth on end", y.of(0, 3), 1);
        check.same("counted anew", y.of(0, 4), 0);
    }

    @Says("when DAY leaves 9 by 10: if BACK is above 0, it is 1 less, KEPT 1 more.")
    static void p28AgesByTenDays(Check check) {
        LightSails x = coated(2, 10);
        for (int day = 0; day < 40; day++) {
            x.fly(1);
            int aged = Math.min(2, (day + 1) / 10);
            check.same("back behind day " + day, x.of(0, 0), 2 - aged);
            check.same("kept behind day " + day, x.of(0, 1), 10 + aged);
        }
        LightSails none = coated(0, 0);
        none.fly(10);
        check.same("back 0", none.of(0, 0), 0);
        check.same("kept 0", none.of(0, 1), 0);
        LightSails all = coated(100, 0);
        for (int i = 0; i < 5; i++) {
            all.fly(200);
        }
        check.same("all of it aged", all.of(0, 0), 0);
        check.same("kept", all.of(0, 1), 100);
        all.fly(10);
        check.same("no less than 0", all.of(0, 0), 0);
        check.same("no more than 100", all.of(0, 1), 100);
    }

    @Says("Then each PANEL that is not TORN: it is WARM, if KEPT times 100 times 32")
    static void p28WarmAheadOfAge(Check check) {
        // 86 and 1 more is warm at 100, but age comes behind warmth on day 9.
        LightSails x = coated(1, 86);
        x.fly(10);
        check.same("aged", x.of(0, 1), 87);
        check.same("not warm yet", x.of(0, 4), 0);
        x.fly(1);
        check.same("warm", x.of(0, 4), 1);
    }

    @Says("The sail STOPS as soon as its GOAL is MET behind a DAY.")
    static void p28StopsAtTheGoal(Check check) {
        LightSails x = new LightSails();
        x.world(100, 30, 0);
        x.goal(0);
        // Angle 28 at least is due: 30 behind ten days.
        check.same("ten days", x.fly(200), 10);
        check.same("day", x.count(0), 10);
        check.same("met", x.count(10), 1);
        check.same("none", x.fly(0), 0);
        check.same("met already, but not behind a day more", x.fly(200), 24);
        x.goal(-1);
        check.same("no goal", x.fly(200), 200);
        // Met now, ahead of the day: a day is flown all the same.
        LightSails y = new LightSails();
        y.world(100, 0, 3);
        y.goal(0);
        check.same("it goes along", y.fly(5), 1);
        LightSails z = new LightSails();
        z.world(100, 9, 0);
        z.goal(0);
        check.same("met behind the last day told", z.fly(3), 3);
        check.same("met", z.count(10), 1);
    }

    @Says({"STRENGTH: PUSH Y for SLANT 3, by 100, cut; 0 at least, 20 at most.", "STRENGTH ahead of it."})
    static void p29StrengthAheadOfTheDay(Check check) {
        LightSails x = new LightSails();
        x.panel(0, 0, 1000, 100, 0);
        x.panel(0, 0, 1000, 100, 0);
        x.dust(1, 0);
        x.fly(2);
        check.same("ahead of day 0", x.note(0, 3), 17);
        check.same("ahead of day 1", x.note(1, 3), 8);
        for (int i = 0; i < 3; i++) {
            x.panel(0, 0, 1000, 100, 0);
        }
        x.fly(1);
        check.same("20 at most", x.note(2, 3), 20);
        LightSails none = new LightSails();
        none.fly(1);
        check.same("0 at least", none.note(0, 3), 0);
    }

    @Says({"Of a DAY flown: 0 STEER, 1 RHO, 2 ANGLE, 3 STRENGTH;", "IllegalArgumentException: another what."})
    static void p29WhatIsAsked(Check check) {
        LightSails x = new LightSails();
        Ends.ofArgument(check, "what of no day", 0, 3, v -> x.note(0, v));
        Texts.tell(x, "out if 1=1;");
        x.fly(1);
        Ends.ofArgument(check, "what", 0, 3, v -> x.note(0, v));
        int[] due = {2, 101, 3, 0};
        for (int what = 0; what < 4; what++) {
            check.same("note " + what, x.note(0, what), due[what]);
        }
    }

    @Says("NOTES: of the latest 64 DAYS flown: STEER, RHO, ANGLE behind it,")
    static void p29SteerThatWasFlown(Check check) {
        // "the first RULE that holds tells STEER (none: keep); if that can't be, keep."
        LightSails x = Things.at(0);
        int day = x.count(0);
        Texts.tell(x, "in if day<" + (day + 2) + ";out if day=" + (day + 2) + ";");
        x.fly(4);
        int[] steers = {1, 1, 2, 1};
        int[] rhos = {0, 0, 1, 1};
        for (int i = 0; i < 4; i++) {
            check.same("steer of " + i, x.note(day + i, 0), steers[i]);
            check.same("rho of " + i, x.note(day + i, 1), rhos[i]);
        }
    }

    @Says({"NONE: it is not kept.", "NOTES: of the latest 64 DAYS flown: STEER, RHO, ANGLE behind it,"})
    static void p29Latest64Days(Check check) {
        LightSails x = new LightSails();
        for (int day : new int[] {0, -1, 1, Integer.MIN_VALUE, Integer.MAX_VALUE}) {
            check.same("no day is flown", x.note(day, 0), -1);
        }
        x.fly(63);
        check.same("day 0 of 63", x.note(0, 2), 3);
        check.same("day 62 of 63", x.note(62, 2), 63 * 3 % 72);
        check.same("day 63 is not flown", x.note(63, 2), -1);
        x.fly(1);
        check.same("day 0 of 64", x.note(0, 2), 3);
        check.same("day 63 of 64", x.note(63, 2), 64 * 3 % 72);
        x.fly(1);
        check.same("day 0 of 65 is not kept", x.note(0, 2), -1);
        check.same("day 1 of 65", x.note(1, 2), 6);
        check.same("day 64 of 65", x.note(64, 2), 65 * 3 % 72);
        for (int day : new int[] {65, 66, 128, -1, -63, -64, Integer.MIN_VALUE, Integer.MAX_VALUE}) {
            check.same("day " + day, x.note(day, 2), -1);
        }
    }

    @Says("of the latest 64 DAYS flown")
    static void p29LastDaysOfAll(Check check) {
        LightSails x = onDay(2000);
        check.same("day 1,935", x.note(1935, 2), -1);
        check.same("day 1,936", x.note(1936, 2), 1937 * 3 % 72);
        check.same("day 1,999", x.note(1999, 2), 2000 * 3 % 72);
        check.same("day 2,000", x.note(2000, 2), -1);
    }
}
