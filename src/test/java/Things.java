/** Objects that have something of everything, or as much of everything as there may be. */
final class Things {
    private Things() {
    }

    static LightSails some() {
        return filled(1);
    }

    static LightSails full() {
        return filled(2);
    }

    /** A sail without panels, so with steps of 1, that went from 100 to that rho, a step a day. */
    static LightSails at(int rho) {
        LightSails x = new LightSails();
        String steer = rho < 100 ? "in" : "out";
        Texts.tell(x, steer + " if day<" + Math.abs(rho - 100) + ";");
        x.fly(Math.abs(rho - 100));
        x.rules(0);
        return x;
    }

    private static LightSails filled(int part) {
        LightSails x = new LightSails();
        fillSail(x, 8 * part, 2 * part);
        x.strip(4 * part, 1);
        x.open(x.safe(0));
        for (int i = 0; i < 2 * part; i++) {
            x.world(90 + 7 * i, 10 * i, i);
        }
        x.goal(1);
        Texts.tell(x, "out if day<2;keep if rho>200;".repeat(part));
        x.fly(3);
        for (int i = 0; i < 10 * part; i++) {
            x.dust(i % 3, 100 + i);
        }
        for (int i = 0; i < 5 * part / 2; i++) {
            x.coat(20 * i, 10);
        }
        for (int i = 0; i < 3 * part; i++) {
            x.sight(i, 3000, 10000);
        }
        for (int i = 0; i < 6 * part; i++) {
            x.offer(i - 6, 6 - i, 10 + i, 3 * i);
        }
        fillNet(x, 3 * part);
        fillTape(x, part);
        return x;
    }

    private static void fillSail(LightSails x, int panels, int flaps) {
        for (int i = 0; i < panels; i++) {
            x.panel(i - 7, 5 - i, 100 + i, 40, 55);
        }
        for (int i = 0; i < flaps; i++) {
            x.flap(i);
            x.bend(i, i % 2 + 1);
        }
        x.stuck(0, true);
        x.weights(3, -4);
        x.tear(1);
    }

    private static void fillNet(LightSails x, int size) {
        for (int i = 0; i < size; i++) {
            x.knot(i - 3, i * i % 5, i != 1);
        }
        for (int i = 0; i < size; i++) {
            x.string(i, (i + 1) % size);
        }
        x.pull(1, 1, 2);
    }

    private static void fillTape(LightSails x, int part) {
        for (int i = 0; i < (part == 1 ? 1 : 15); i++) {
            x.feed(0x20202020, 0x20202020, 0x20202020, 0x20202020, 0x20202020);
        }
    }
}
