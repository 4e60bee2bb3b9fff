/**
 * What can be asked of an object, as one text: if two pictures are alike, nothing changed between them. It takes some 130
 * calls at most, so that two of them and what lies between stay below the 512 that an object is good for.
 */
final class Picture {
    private final StringBuilder text = new StringBuilder();
    private final LightSails x;

    private Picture(LightSails x) {
        this.x = x;
    }

    /** What is asked by changing it, the goal and the flaps, is put back. */
    static String of(LightSails x) {
        Picture picture = new Picture(x);
        picture.addCounts();
        picture.addStrip();
        picture.addSail();
        picture.addWorlds();
        picture.addNet();
        return picture.text.toString();
    }

    private void add(String what, long answer) {
        text.append(what).append(' ').append(answer).append('\n');
    }

    private void addCounts() {
        for (int what = 0; what < 18; what++) {
            add("count " + what, x.count(what));
        }
        add("fault", x.fault());
        add("asks", x.asks());
        int yesterday = x.count(0) - 1;
        for (int what = 0; what < 4; what++) {
            add("note of yesterday", x.note(yesterday, what));
        }
        for (int what = 0; what < 5; what++) {
            add("sheet", x.sheet(50, 5000, what));
        }
    }

    private void addStrip() {
        for (int part = x.layer(0), k = 1; part >= 0; part = x.layer(k), k++) {
            add("layer", part);
            add("safe", x.safe(k - 1));
        }
    }

    private void addSail() {
        int panels = x.count(3);
        for (int panel = 0; panel < panels; panel++) {
            add("back of " + panel, x.of(panel, 0));
            add("torn " + panel, x.of(panel, 2));
        }
        int flaps = x.count(4);
        for (int flap = 0; flap < flaps; flap++) {
            boolean stuck = x.stuck(flap, false);
            int bend = x.bend(flap, 0);
            x.bend(flap, bend);
            x.stuck(flap, stuck);
            add("bend " + bend + " stuck", stuck ? 1 : 0);
        }
        add("turn x", x.turn(0, 0));
        add("turn y", x.turn(0, 1));
        int m = Math.min(4, panels);
        if (m > 0) {
            add("fits", x.fits(m));
            add("shows", x.shows(m));
        }
    }

    private void addWorlds() {
        int goal = x.goal(-1);
        x.goal(goal);
        add("goal", goal);
        int worlds = x.count(5);
        for (int world = 0; world < worlds; world++) {
            add("angle", x.angle(world, 1));
            add("least", x.least(world, -1));
        }
    }

    private void addNet() {
        add("ease", x.ease(0));
        add("ease below", x.ease(1));
        int strings = x.count(16);
        for (int string = 0; string < strings; string++) {
            add("slack", Check.number(x.slack(string)));
            add("taut", Check.number(x.taut(string)));
        }
    }
}
