/** One refused call of each kind: of each method that throws, and of each exception that it may throw. */
final class Refused {
    private Refused() {
    }

    static Check.Call[] of(LightSails x) {
        return new Check.Call[] {
            () -> x.strip(9, 0), () -> x.strip(3, 4), () -> Check.number(x.lies(0)), () -> Check.number(x.clear(7)),
            () -> x.open(-1), () -> x.panel(21, 0, 1, 0, 0), () -> x.of(16, 0), () -> x.of(0, 5),
            () -> Check.number(x.tear(16)), () -> x.flap(-1), () -> x.bend(4, 0), () -> x.bend(1, 3),
            () -> Check.number(x.stuck(4, true)), () -> weigh(x), () -> x.push(9, 0), () -> x.push(0, 2),
            () -> x.turn(-9, 0), () -> x.turn(0, -1), () -> x.trim(9, -1), () -> x.trim(0, 4), () -> x.world(256, 0, 0),
            () -> x.angle(4, 0), () -> x.angle(0, 3001), () -> x.least(4, -1), () -> x.least(0, 40), () -> x.goal(4),
            () -> x.goal(-2), () -> x.rules(-1), () -> x.rules(301), () -> x.dust(16, 500), () -> x.dust(0, 2000),
            () -> x.dust(0, 0), () -> x.fly(201), () -> x.fly(-1), () -> x.note(0, 4), () -> x.coat(51, 50),
            () -> x.sight(9, 0, 0), () -> x.fits(5), () -> x.fit(0, 0), () -> x.shows(5), () -> x.knot(6, 0, true),
            () -> pull(x, 6, 0), () -> pull(x, 0, 101), () -> x.string(0, 6), () -> x.string(1, 1),
            () -> Check.number(x.slack(6)), () -> Check.number(x.taut(-1)), () -> x.ease(2), () -> x.offer(0, 0, 1001, 0),
            () -> x.sheet(1201, 0, 0), () -> x.sheet(0, 0, 5), () -> x.late(4, 0), () -> x.late(0, 21),
            () -> x.window(4)};
    }

    private static long weigh(LightSails x) {
        x.weights(0, 21);
        return 0;
    }

    private static long pull(LightSails x, int knot, int by) {
        x.pull(knot, by, 0);
        return 0;
    }
}
