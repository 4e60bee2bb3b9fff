import java.util.Random;

/** All promises: long runs of calls by chance (always the same), on the class and on the model. */
public final class RandomRunsTest {
    private final Check check = new Check();
    private final Random random;
    private LightSails x = new LightSails();
    private Model m = new Model();
    private int run;

    private RandomRunsTest(long seed) {
        random = new Random(seed);
    }

    public static void main(String[] args) {
        int runs = args.length > 0 ? Integer.parseInt(args[0]) : 50;
        RandomRunsTest test = new RandomRunsTest(args.length > 1 ? Long.parseLong(args[1]) : 20261118L);
        for (test.run = 0; test.run < runs; test.run++) {
            for (int profile = 0; profile < 8; profile++) {
                test.runCalls(profile);
            }
        }
        test.check.end("RandomRunsTest");
    }

    private void runCalls(int profile) {
        x = new LightSails();
        m = new Model();
        int calls = profile == 3 ? 120 : 500;
        for (int i = 0; i < calls; i++) {
            // Profile 7 mixes all; the others have a theme, with some of everything else between.
            int theme = profile == 7 || random.nextInt(10) == 0 ? random.nextInt(7) : profile;
            step(theme);
            if (random.nextInt(8) == 0) {
                int what = near(0, 17);
                compare("count", x -> x.count(what), m -> m.count(what));
            }
        }
    }

    private interface OfClass {
        long answer(LightSails x);
    }

    private interface OfModel {
        long answer(Model m);
    }

    private void compare(String call, OfClass ofClass, OfModel ofModel) {
        String got;
        String due;
        try {
            got = String.valueOf(ofClass.answer(x));
        } catch (RuntimeException e) {
            got = e.getClass().getSimpleName();
        }
        try {
            due = String.valueOf(ofModel.answer(m));
        } catch (IllegalArgumentException | IllegalStateException | IndexOutOfBoundsException
                | java.util.NoSuchElementException e) {
            due = e.getClass().getSimpleName();
        }
        if (!got.equals(due)) {
            System.out.println("run " + run + " " + call + ": " + got + ", due is " + due);
        }
        check.yes(call, got.equals(due));
    }

    private int range(int low, int high) {
        return low + random.nextInt(high - low + 1);
    }

    /** Mostly in the range, often at its ends, seldom beside it. */
    private int near(int low, int high) {
        int way = random.nextInt(60);
        if (way == 0) {
            return random.nextBoolean() ? low - 1 : high + 1;
        }
        if (way == 1) {
            return random.nextInt();
        }
        if (way < 6) {
            return random.nextBoolean() ? low : high;
        }
        return range(low, high);
    }

    private void step(int theme) {
        switch (theme) {
            case 0: stepStrip(); break;
            case 1: stepSail(); break;
            case 2: stepFlight(); break;
            case 3: stepWorlds(); break;
            case 4: stepRules(); break;
            case 5: stepNet(); break;
            default: stepCoatsAndOffers(); break;
        }
    }

    private void stepStrip() {
        int a = near(2, 8);
        int b = near(0, (1 << (Math.max(1, Math.min(8, a)) - 1)) - 1);
        int c = near(0, 6);
        switch (range(0, 9)) {
            case 0:
                if (range(0, 2) == 0) {
                    compare("strip " + a + " " + b, x -> x.strip(a, b), m -> m.strip(a, b));
                }
                break;
            case 1: compare("layer " + c, x -> x.layer(c), m -> m.layer(c)); break;
            case 2: case 3:
                int told = toldPile();
                compare("lies " + told, x -> Check.number(x.lies(told)), m -> Check.number(m.lies(told)));
                break;
            case 4: case 5: compare("clear " + c, x -> Check.number(x.clear(c)), m -> Check.number(m.clear(c))); break;
            case 6: compare("open " + c, x -> x.open(c), m -> m.open(c)); break;
            case 7: compare("orders", x -> x.orders(), m -> m.orders()); break;
            default: compare("safe " + c, x -> x.safe(c), m -> m.safe(c)); break;
        }
    }

    private int toldPile() {
        int n = m.parts == 0 ? 3 : m.parts;
        int[] row = new int[n];
        if (range(0, 2) == 0 && m.parts > 0) {
            int[][] lying = Model.pilesOf(n, m.up);
            row = lying[range(0, lying.length - 1)].clone();
        } else {
            for (int i = 1; i < n; i++) {
                int j = range(0, i);
                row[i] = row[j];
                row[j] = i;
            }
        }
        if (range(0, 3) == 0) {
            int i = range(0, n - 1);
            int j = range(0, n - 1);
            int swapped = row[i];
            row[i] = row[j];
            row[j] = swapped;
        }
        int told = 0;
        for (int i = 0; i < n; i++) {
            told |= row[i] << (3 * i);
        }
        if (range(0, 9) == 0) {
            told ^= 1 << range(0, 31);
        }
        return told;
    }

    private void addPanel() {
        int px = near(-20, 20);
        int py = near(-20, 20);
        int area = near(1, 1000);
        int back = near(0, 100);
        int kept = range(0, 30) == 0 ? near(0, 100) : near(0, Math.max(0, 100 - Math.max(0, Math.min(100, back))));
        compare("panel", x -> x.panel(px, py, area, back, kept), m -> m.panel(px, py, area, back, kept));
    }

    private void stepSail() {
        int panel = near(0, Math.max(0, m.panels.size() - 1));
        int flap = near(0, Math.max(0, m.flaps.size() - 1));
        int slant = near(-8, 8);
        int what = near(0, 4);
        switch (range(0, 12)) {
            case 0: addPanel(); break;
            case 1: compare("of " + panel + " " + what, x -> x.of(panel, what), m -> m.of(panel, what)); break;
            case 2:
                if (range(0, 5) == 0) {
                    compare("tear", x -> Check.number(x.tear(panel)), m -> Check.number(m.tear(panel)));
                }
                break;
            case 3: compare("flap", x -> x.flap(panel), m -> m.flap(panel)); break;
            case 4: case 5:
                int v = near(-2, 2);
                compare("bend", x -> x.bend(flap, v), m -> m.bend(flap, v));
                break;
            case 6:
                boolean is = range(0, 2) == 0;
                compare("stuck", x -> Check.number(x.stuck(flap, is)), m -> Check.number(m.stuck(flap, is)));
                break;
            case 7:
                int wx = near(-20, 20);
                int wy = near(-20, 20);
                compare("weights", x -> { x.weights(wx, wy); return 0; }, m -> { m.weights(wx, wy); return 0; });
                break;
            case 8: case 9:
                int side = near(0, 1);
                compare("push " + slant + " " + side, x -> x.push(slant, side), m -> m.push(slant, side));
                break;
            case 10:
                int axis = near(0, 1);
                compare("turn " + slant + " " + axis, x -> x.turn(slant, axis), m -> m.turn(slant, axis));
                break;
            default:
                int t = near(-1, 3);
                compare("trim " + slant + " " + t, x -> x.trim(slant, t), m -> m.trim(slant, t));
                break;
        }
    }

    private void stepFlight() {
        int panel = near(0, Math.max(0, m.panels.size() - 1));
        int what = near(0, 4);
        switch (range(0, 10)) {
            case 0: case 1: addPanel(); break;
            case 2:
                int dustDay = range(0, 3) == 0 ? near(0, 1999) : m.day + range(-1, 30);
                compare("dust", x -> x.dust(panel, dustDay), m -> m.dust(panel, dustDay));
                break;
            case 3: case 4:
                int days = range(0, 6) == 0 ? near(0, 200) : range(0, 9);
                compare("fly " + days, x -> x.fly(days), m -> m.fly(days));
                break;
            case 5: case 6:
                int noteDay = range(0, 3) == 0 ? near(0, 2000) : m.day - range(0, 66);
                compare("note " + noteDay, x -> x.note(noteDay, what), m -> m.note(noteDay, what));
                break;
            case 7: compare("of " + panel + " " + what, x -> x.of(panel, what), m -> m.of(panel, what)); break;
            case 8: stepGoal(); break;
            case 9:
                if (range(0, 3) == 0) {
                    feedText(Texts.valid(random));
                }
                break;
            default: compare("asks", x -> x.asks(), m -> m.asks()); break;
        }
    }

    private void stepGoal() {
        int world = near(-1, Math.max(0, m.worlds.size() - 1));
        int rho = range(0, 2) == 0 ? near(0, 255) : Math.max(0, Math.min(255, m.rho + range(-30, 30)));
        int angle = near(0, 71);
        int speed = near(0, 10);
        if (range(0, 2) == 0) {
            compare("world " + rho + " " + angle + " " + speed, x -> x.world(rho, angle, speed),
                    m -> m.world(rho, angle, speed));
        } else {
            compare("goal " + world, x -> x.goal(world), m -> m.goal(world));
        }
    }

    private void stepWorlds() {
        int world = near(0, Math.max(0, m.worlds.size() - 1));
        switch (range(0, 9)) {
            case 0: addPanel(); break;
            case 1: case 2: stepGoal(); break;
            case 3:
                int day = near(0, 3000);
                compare("angle", x -> x.angle(world, day), m -> m.angle(world, day));
                break;
            case 4: case 5: case 6:
                int what = range(0, 2) == 0 ? -1 : near(-1, 39);
                compare("least " + world + " " + what, x -> x.least(world, what), m -> m.least(world, what));
                break;
            case 7:
                int late = near(0, 20);
                compare("late " + world + " " + late, x -> x.late(world, late), m -> m.late(world, late));
                break;
            case 8:
                if (range(0, 4) == 0) {
                    compare("window " + world, x -> x.window(world), m -> m.window(world));
                }
                break;
            default:
                int days = range(0, 4);
                compare("fly " + days, x -> x.fly(days), m -> m.fly(days));
                break;
        }
    }

    private void feedText(String text) {
        if (range(0, 9) != 0) {
            // A tape with something on it already would hide the text.
            compare("rules 0", x -> x.rules(0), m -> m.rules(0));
        }
        for (int i = 0; i < text.length(); i += 20) {
            int[] five = Texts.five(text, i);
            compare("feed", x -> x.feed(five[0], five[1], five[2], five[3], five[4]),
                    m -> m.feed(five[0], five[1], five[2], five[3], five[4]));
        }
        int n = range(0, 9) == 0 ? near(0, 300) : text.length();
        compare("rules " + n + ": " + text, x -> x.rules(n), m -> m.rules(n));
        compare("fault " + n + ": " + text, x -> x.fault(), m -> m.fault());
        compare("asks " + text, x -> x.asks(), m -> m.asks());
    }

    private void stepRules() {
        switch (range(0, 5)) {
            case 0: case 1: feedText(Texts.valid(random)); break;
            case 2: feedText(Texts.spoilt(random)); break;
            case 3:
                int days = range(0, 3);
                compare("fly", x -> x.fly(days), m -> m.fly(days));
                break;
            case 4: stepGoal(); break;
            default: compare("asks", x -> x.asks(), m -> m.asks()); break;
        }
    }

    private void stepNet() {
        int knot = near(0, Math.max(0, m.knots.size() - 1));
        int other = near(0, Math.max(0, m.knots.size() - 1));
        int string = near(0, Math.max(0, m.strings.size() - 1));
        switch (range(0, 13)) {
            case 0: case 1:
                int far = range(1, 5);
                int kx = range(0, 2) == 0 ? near(-5, 5) : range(-far, far);
                int ky = range(0, 2) == 0 ? near(-5, 5) : range(-far, far);
                boolean held = random.nextBoolean();
                compare("knot", x -> x.knot(kx, ky, held), m -> m.knot(kx, ky, held));
                break;
            case 2: stepPull(knot); break;
            case 3: case 4: case 5:
                compare("string " + knot + " " + other, x -> x.string(knot, other), m -> m.string(knot, other));
                break;
            case 6: compare("hangs", x -> Check.number(x.hangs()), m -> Check.number(m.hangs())); break;
            case 7: case 8: compare("slack", x -> Check.number(x.slack(string)), m -> Check.number(m.slack(string))); break;
            case 9: case 10: compare("taut", x -> Check.number(x.taut(string)), m -> Check.number(m.taut(string))); break;
            case 11: case 12:
                int what = near(0, 1);
                compare("ease " + what, x -> x.ease(what), m -> m.ease(what));
                break;
            default:
                if (range(0, 2) == 0) {
                    compare("cut", x -> x.cut(), m -> m.cut());
                }
                break;
        }
    }

    /** Mostly a pull that the strings of the knot can bear. */
    private void stepPull(int knot) {
        int px = near(-100, 100);
        int py = near(-100, 100);
        if (range(0, 3) > 0 && knot >= 0 && knot < m.knots.size()) {
            int sumX = 0;
            int sumY = 0;
            for (int[] s : m.strings) {
                int tension = range(0, 3);
                if (s[0] == knot || s[1] == knot) {
                    int[] to = m.knots.get(s[0] == knot ? s[1] : s[0]);
                    sumX -= tension * (to[0] - m.knots.get(knot)[0]);
                    sumY -= tension * (to[1] - m.knots.get(knot)[1]);
                }
            }
            px = Math.max(-100, Math.min(100, sumX));
            py = Math.max(-100, Math.min(100, sumY));
        }
        int ax = px;
        int ay = py;
        compare("pull", x -> { x.pull(knot, ax, ay); return 0; }, m -> { m.pull(knot, ax, ay); return 0; });
    }

    private void stepCoatsAndOffers() {
        int hidden = near(1, Math.max(1, Math.min(4, m.panels.size())));
        int slant = near(-8, 8);
        switch (range(0, 11)) {
            case 0: addPanel(); break;
            case 1:
                int back = near(0, 100);
                int kept = near(0, Math.max(0, 100 - Math.max(0, Math.min(100, back))));
                compare("coat", x -> x.coat(back, kept), m -> m.coat(back, kept));
                break;
            case 2:
                int seen = range(0, 3) == 0 || !Model.in(slant, -8, 8) ? near(0, 1000000) : (int) m.pushOf(slant, 0);
                int ends = range(0, 2) == 0 ? near(0, 10000) : range(0, 1500);
                if (range(0, 3) == 0) {
                    compare("sight", x -> x.sight(slant, seen, ends), m -> m.sight(slant, seen, ends));
                }
                break;
            case 3: case 4: compare("fits " + hidden, x -> x.fits(hidden), m -> m.fits(hidden)); break;
            case 5:
                int k = near(0, 3);
                compare("fit " + hidden + " " + k, x -> x.fit(hidden, k), m -> m.fit(hidden, k));
                break;
            case 6: compare("shows " + hidden, x -> x.shows(hidden), m -> m.shows(hidden)); break;
            case 7: case 8: stepOffer(); break;
            case 9: stepSail(); break;
            default:
                int budget = near(0, 1200) / range(1, 4);
                int bound = range(0, 3) == 0 ? near(0, 1000000) : range(0, 3000);
                int what = near(0, 4);
                compare("sheet", x -> x.sheet(budget, bound, what), m -> m.sheet(budget, bound, what));
                break;
        }
    }

    /** Few unlike gains and costs, so that sheets are often alike. */
    private void stepOffer() {
        int ox = near(-20, 20);
        int oy = near(-20, 20);
        boolean small = random.nextBoolean();
        int gain = small ? range(0, 3) : near(0, 1000);
        int cost = small ? range(0, 3) : near(0, 100);
        if (range(0, 2) == 0) {
            compare("offer", x -> x.offer(ox, oy, gain, cost), m -> m.offer(ox, oy, gain, cost));
        }
    }
}
