import java.util.NoSuchElementException;

/** Sails pushed by light. The face looks at arguments and throws; the classes inside do the work. */
public final class LightSails {
    public static final int NONE = -1;

    private static final int NO_BEND = NONE - 2;
    private static final int NO_ANSWER = -9;
    private static final int LAST_DAY = 2000;

    private final Folding folding = new Folding();
    private final Sail sail = new Sail();
    private final Voyage voyage = new Voyage();
    private final Reader reader = new Reader();
    private final Hiding hiding = new Hiding();
    private final Net net = new Net();
    private final Catalog catalog = new Catalog();
    private Rules steering = new Rules();

    public LightSails() {
    }

    public int strip(int parts, int up) throws IllegalArgumentException {
        needArgument(within(parts, 2, Folding.MOST_PARTS) && up >>> (parts - 1) == 0);
        return folding.tell(parts, up);
    }

    public int layer(int k) {
        return within(k, 0, folding.parts - 1) ? folding.pile[k] : NONE;
    }

    public boolean lies(int pile) throws IllegalStateException, IllegalArgumentException {
        needState(folding.parts > 0);
        needArgument(folding.isRowOfParts(pile));
        return folding.liesSo(pile);
    }

    public boolean clear(int crease) throws IllegalStateException, IndexOutOfBoundsException,
            IllegalArgumentException {
        needState(folding.parts > 0);
        needIndex(within(crease, 0, folding.parts - 2));
        needArgument(!folding.isOpen(crease, folding.opened));
        return folding.isClear(crease, folding.opened);
    }

    public int open(int crease) throws IllegalStateException, IndexOutOfBoundsException {
        needState(folding.parts > 0);
        needIndex(within(crease, 0, folding.parts - 2));
        return folding.tryOpening(crease);
    }

    public int orders() throws IllegalStateException {
        needState(folding.parts > 0);
        return folding.countOrders();
    }

    public int safe(int k) throws IllegalStateException {
        needState(folding.parts > 0);
        return folding.creaseOfFirstOrder(k);
    }

    public int panel(int x, int y, int area, int back, int kept) throws IllegalArgumentException {
        needArgument(isSpot(x, y) && within(area, 1, 1000) && isCoat(back, kept));
        return sail.addPanel(x, y, area, back, kept);
    }

    public int of(int panel, int what) throws NoSuchElementException, IllegalArgumentException {
        needElement(sail.hasPanel(panel));
        needArgument(within(what, 0, 4));
        return sail.panels[panel].fact(what);
    }

    public boolean tear(int panel) throws NoSuchElementException {
        needElement(sail.hasPanel(panel));
        boolean was = sail.panels[panel].torn;
        sail.panels[panel].torn = true;
        return was;
    }

    public int flap(int panel) throws NoSuchElementException {
        needElement(sail.hasPanel(panel));
        return sail.makeFlap(panel);
    }

    public int bend(int flap, int v) throws IndexOutOfBoundsException, IllegalArgumentException {
        needIndex(sail.hasFlap(flap));
        needArgument(within(v, -Sail.MOST_BEND, Sail.MOST_BEND));
        Panel bent = sail.flaps[flap];
        int was = bent.bend;
        if (bent.stuck) {
            return NO_BEND;
        }
        bent.bend = v;
        return was;
    }

    public boolean stuck(int flap, boolean is) throws IndexOutOfBoundsException {
        needIndex(sail.hasFlap(flap));
        boolean was = sail.flaps[flap].stuck;
        sail.flaps[flap].stuck = is;
        return was;
    }

    public void weights(int x, int y) throws IllegalArgumentException {
        needArgument(isSpot(x, y));
        sail.weightX = x;
        sail.weightY = y;
    }

    public int push(int slant, int what) throws IllegalArgumentException {
        needArgument(isSlant(slant) && within(what, 0, 1));
        return what == 0 ? sail.pushX(slant) : sail.pushY(slant);
    }

    public int turn(int slant, int axis) throws IllegalArgumentException {
        needArgument(isSlant(slant) && within(axis, 0, 1));
        return sail.turnBy(slant, axis);
    }

    public int trim(int slant, int what) throws IllegalArgumentException {
        needArgument(isSlant(slant) && within(what, -1, Sail.MOST_FLAPS - 1));
        if (what >= sail.flapCount) {
            return NO_BEND;
        }
        int amount = sail.findTrim(slant);
        return what < 0 ? amount : sail.trimBends[what];
    }

    public int world(int rho, int angle, int speed) throws IllegalArgumentException {
        needArgument(within(rho, 0, Voyage.MOST_RHO) && within(angle, 0, Voyage.ROUND - 1) && within(speed, 0, 10));
        return voyage.addWorld(rho, angle, speed);
    }

    public int angle(int world, int day) throws IndexOutOfBoundsException, IllegalArgumentException {
        needIndex(voyage.hasWorld(world));
        needArgument(within(day, 0, 3000));
        return voyage.worlds[world].angleOn(day);
    }

    public int least(int world, int what) throws IndexOutOfBoundsException, IllegalArgumentException {
        needIndex(voyage.hasWorld(world));
        needArgument(within(what, -1, Chart.MOST_DAYS - 1));
        int strength = sail.strength();
        return what < 0 ? voyage.fewestDays(world, 0, strength) : voyage.steerOfFirstWay(world, what, strength);
    }

    public int goal(int world) throws IndexOutOfBoundsException {
        needIndex(world == NONE || voyage.hasWorld(world));
        int was = voyage.goal;
        voyage.goal = world;
        return was;
    }

    public int feed(int a, int b, int c, int d, int e) {
        if (!reader.hasRoom()) {
            return NONE;
        }
        reader.addNumber(a);
        reader.addNumber(b);
        reader.addNumber(c);
        reader.addNumber(d);
        reader.addNumber(e);
        return reader.tapeLength;
    }

    public int rules(int n) throws IllegalArgumentException {
        needArgument(within(n, 0, reader.tapeLength));
        reader.readTape(n);
        if (reader.mistake != Reader.NO_MISTAKE) {
            return reader.mistake - 10;
        }
        // The former rules become the reader's room for the next text.
        Rules former = steering;
        steering = reader.result;
        reader.result = former;
        return steering.count;
    }

    public int fault() {
        return reader.place;
    }

    public int asks() {
        int rule = voyage.firstRule(sail, steering, sail.strength());
        return rule == NONE ? NO_ANSWER : 10 * rule + steering.steerOf(rule);
    }

    public int dust(int panel, int day) throws NoSuchElementException, IllegalArgumentException {
        needElement(sail.hasPanel(panel));
        needArgument(within(day, 0, LAST_DAY - 1) && day >= voyage.day);
        return voyage.addDust(panel, day);
    }

    public int fly(int days) throws IllegalArgumentException, IllegalStateException {
        needArgument(within(days, 0, 200));
        needState(voyage.day + days <= LAST_DAY);
        return voyage.flyFor(days, sail, steering);
    }

    public int note(int day, int what) throws IllegalArgumentException {
        needArgument(within(what, 0, 3));
        return voyage.noteOf(day, what);
    }

    public int coat(int back, int kept) throws IllegalArgumentException {
        needArgument(isCoat(back, kept));
        return hiding.addCoat(back, kept);
    }

    public int sight(int slant, int x, int ends) throws IllegalArgumentException {
        needArgument(isSlant(slant) && within(x, 0, 1000000) && within(ends, 0, 10000));
        return hiding.addSight(slant, x, ends);
    }

    public int fits(int m) throws IllegalArgumentException {
        needArgument(isFitLength(m));
        return hiding.findFits(sail, m);
    }

    public int fit(int m, int k) throws IllegalArgumentException {
        needArgument(isFitLength(m));
        return within(k, 0, m - 1) && hiding.findFits(sail, m) > 0 ? hiding.coatOf(0, k) : NONE;
    }

    public int shows(int m) throws IllegalArgumentException {
        needArgument(isFitLength(m));
        return hiding.findFits(sail, m) > 0 ? hiding.bestSlant(m) : NO_ANSWER;
    }

    public int knot(int x, int y, boolean held) throws IllegalArgumentException {
        needArgument(within(x, -5, 5) && within(y, -5, 5));
        return net.addKnot(x, y, held);
    }

    public void pull(int knot, int x, int y) throws IndexOutOfBoundsException, IllegalArgumentException {
        needIndex(net.hasKnot(knot));
        needArgument(within(x, -100, 100) && within(y, -100, 100));
        net.setPull(knot, x, y);
    }

    public int string(int knot, int other) throws IndexOutOfBoundsException, IllegalArgumentException {
        needIndex(net.hasKnot(knot) && net.hasKnot(other));
        needArgument(knot != other);
        return net.addString(knot, other);
    }

    public boolean hangs() {
        net.settle();
        return net.hanging;
    }

    public boolean slack(int string) throws IndexOutOfBoundsException {
        needIndex(net.hasString(string));
        net.settle();
        return (net.slackBits >> string & 1) == 1;
    }

    public boolean taut(int string) throws IndexOutOfBoundsException {
        needIndex(net.hasString(string));
        net.settle();
        return (net.tautBits >> string & 1) == 1;
    }

    public long ease(int what) throws IllegalArgumentException {
        needArgument(within(what, 0, 1));
        net.settle();
        if (!net.hanging) {
            return NONE;
        }
        return what == 0 ? net.easeAbove : net.easeBelow;
    }

    public int cut() {
        return net.cutAll();
    }

    public int offer(int x, int y, int gain, int cost) throws IllegalArgumentException {
        needArgument(isSpot(x, y) && within(gain, 0, 1000) && within(cost, 0, 100));
        return catalog.addOffer(x, y, gain, cost);
    }

    public int sheet(int budget, int bound, int what) throws IllegalArgumentException {
        needArgument(within(budget, 0, 1200) && within(bound, 0, 1000000) && within(what, 0, 4));
        catalog.findBest(budget, bound);
        return catalog.best[what];
    }

    public int late(int world, int days) throws IndexOutOfBoundsException, IllegalArgumentException {
        needIndex(voyage.hasWorld(world));
        needArgument(within(days, 0, Voyage.MOST_WAITING));
        return voyage.daysInAll(world, days, sail.strength());
    }

    public int window(int world) throws IndexOutOfBoundsException {
        needIndex(voyage.hasWorld(world));
        return voyage.bestWaiting(world, sail.strength());
    }

    public int count(int what) {
        switch (what) {
            case 0: return voyage.day;
            case 1: return voyage.rho;
            case 2: return voyage.angle;
            case 3: return sail.panelCount;
            case 4: return sail.flapCount;
            case 5: return voyage.worldCount;
            case 6: return steering.count;
            case 7: return sail.strength();
            case 8: return stepsAt(voyage.rho, sail.strength());
            case 9: return reader.tapeLength;
            case 10: return voyage.isGoalMet() ? 1 : 0;
            case 11: return hiding.coatCount;
            case 12: return hiding.sightCount;
            case 13: return voyage.dustCount;
            case 14: return Integer.bitCount(folding.opened);
            case 15: return net.knotCount;
            case 16: return net.stringCount;
            case 17: return catalog.size;
            default: return NONE;
        }
    }

    private static void needArgument(boolean holds) {
        if (!holds) {
            throw new IllegalArgumentException("an argument is none that can be");
        }
    }

    private static void needIndex(boolean holds) {
        if (!holds) {
            throw new IndexOutOfBoundsException("there is none of that number");
        }
    }

    private static void needElement(boolean holds) {
        if (!holds) {
            throw new NoSuchElementException("there is no such panel");
        }
    }

    private static void needState(boolean holds) {
        if (!holds) {
            throw new IllegalStateException("it can't be asked for now");
        }
    }

    private static boolean within(int value, int low, int high) {
        return value >= low && value <= high;
    }

    private static boolean isSpot(int x, int y) {
        return within(x, -20, 20) && within(y, -20, 20);
    }

    private static boolean isSlant(int slant) {
        return within(slant, -Panel.MOST_SLANT, Panel.MOST_SLANT);
    }

    private static boolean isCoat(int back, int kept) {
        return within(back, 0, 100) && within(kept, 0, 100) && back + kept <= 100;
    }

    private boolean isFitLength(int m) {
        return within(m, 1, Hiding.MOST_HIDDEN) && m <= sail.panelCount;
    }

    private static int stepsAt(int rho, int strength) {
        return rho < 0 ? 1 : 1 + strength * 32 / (rho + 32);
    }

    private static int turnOfDay(int rho) {
        return rho < 0 ? 1 : 1 + 320 / (rho + 32);
    }

    private static int rhoBehind(int rho, int steer, int strength) {
        return rho + (steer - 1) * stepsAt(rho, strength);
    }

    /** The next row of digits, the last digit first to grow; false: it was the last row. */
    private static boolean nextRow(int[] digits, int[] first, int[] last, int length) {
        for (int i = length - 1; i >= 0; i--) {
            if (digits[i] < last[i]) {
                digits[i]++;
                return true;
            }
            digits[i] = first[i];
        }
        return false;
    }

    /** A strip, the first pile in which it lies, and the creases of it that are open. */
    private static final class Folding {
        private static final int MOST_PARTS = 8;
        private static final int CROSSED = -1;
        private int parts;
        private int up;
        private int opened;
        private int piles;
        private final int[] pile = new int[MOST_PARTS];
        private final int[] layerOf = new int[MOST_PARTS];
        private final int[] trial = new int[MOST_PARTS];
        private final int[] ways = new int[1 << (MOST_PARTS - 1)];

        private int tell(int newParts, int newUp) {
            parts = newParts;
            up = newUp;
            opened = 0;
            piles = 0;
            pileFrom(0, 0, 0, 0);
            return piles;
        }

        /** Parts come in rising order on each layer, so that the first full pile is the first of all. */
        private void pileFrom(int layer, int used, int evens, int odds) {
            if (layer >= parts) {
                takeTrial();
                return;
            }
            for (int part = 0; part < parts; part++) {
                if (mayCome(part, used)) {
                    int newEvens = sideWith(evens, evenCrease(part), part, used);
                    int newOdds = sideWith(odds, oddCrease(part), part, used);
                    if (newEvens != CROSSED && newOdds != CROSSED) {
                        trial[layer] = part;
                        pileFrom(layer + 1, used | 1 << part, newEvens, newOdds);
                    }
                }
            }
        }

        private void takeTrial() {
            if (piles == 0) {
                for (int layer = 0; layer < parts; layer++) {
                    pile[layer] = trial[layer];
                    layerOf[trial[layer]] = layer;
                }
            }
            piles++;
        }

        private static int evenCrease(int part) {
            return part % 2 == 0 ? part : part - 1;
        }

        private static int oddCrease(int part) {
            return part % 2 == 0 ? part - 1 : part;
        }

        private boolean rises(int crease) {
            boolean isUp = (up >> crease & 1) == 1;
            return isUp == (crease % 2 == 0);
        }

        /** Whether a part may lie next above the used ones, as for its neighbours above and below. */
        private boolean mayCome(int part, int used) {
            if ((used >> part & 1) == 1) {
                return false;
            }
            boolean formerUsed = part > 0 && (used >> (part - 1) & 1) == 1;
            boolean nextUsed = (used >> (part + 1) & 1) == 1;
            boolean formerFits = part == 0 || formerUsed == rises(part - 1);
            boolean nextFits = part == parts - 1 || nextUsed != rises(part);
            return formerFits && nextFits;
        }

        /** A side holds its half laid creases, four bits each, the latest lowest: only that may be ended. */
        private int sideWith(int side, int crease, int part, int used) {
            if (crease < 0 || crease >= parts - 1) {
                return side;
            }
            int partner = part == crease ? crease + 1 : crease;
            if ((used >> partner & 1) == 0) {
                return side << 4 | (crease + 1);
            }
            return (side & 15) == crease + 1 ? side >>> 4 : CROSSED;
        }

        private boolean isRowOfParts(int row) {
            if (row >>> (3 * parts) != 0) {
                return false;
            }
            int used = 0;
            for (int layer = 0; layer < parts; layer++) {
                used |= 1 << (row >> (3 * layer) & 7);
            }
            return used == (1 << parts) - 1;
        }

        private boolean liesSo(int row) {
            int used = 0;
            int evens = 0;
            int odds = 0;
            for (int layer = 0; layer < parts; layer++) {
                int part = row >> (3 * layer) & 7;
                if (!mayCome(part, used)) {
                    return false;
                }
                evens = sideWith(evens, evenCrease(part), part, used);
                odds = sideWith(odds, oddCrease(part), part, used);
                if (evens == CROSSED || odds == CROSSED) {
                    return false;
                }
                used |= 1 << part;
            }
            return true;
        }

        private boolean isOpen(int crease, int openBits) {
            return (openBits >> crease & 1) == 1;
        }

        private boolean isClear(int crease, int openBits) {
            int low = crease;
            while (low > 0 && !isOpen(low - 1, openBits)) {
                low--;
            }
            int high = crease + 1;
            while (high < parts - 1 && !isOpen(high, openBits)) {
                high++;
            }
            return isAbove(low, crease, crease + 1, high) || isAbove(crease + 1, high, low, crease);
        }

        /** Whether all parts of the first range lie above all of the second. */
        private boolean isAbove(int from, int to, int otherFrom, int otherTo) {
            int lowest = MOST_PARTS;
            for (int part = from; part <= to; part++) {
                lowest = Math.min(lowest, layerOf[part]);
            }
            int highest = NONE;
            for (int part = otherFrom; part <= otherTo; part++) {
                highest = Math.max(highest, layerOf[part]);
            }
            return lowest > highest;
        }

        private int tryOpening(int crease) {
            if (isOpen(crease, opened)) {
                return -1;
            }
            if (!isClear(crease, opened)) {
                return 0;
            }
            opened |= 1 << crease;
            return 1;
        }

        /** Fills ways: from each set of open creases on, in how many safe orders the others open. */
        private int countOrders() {
            int all = (1 << (parts - 1)) - 1;
            ways[all] = 1;
            for (int set = all - 1; set >= opened; set--) {
                ways[set] = 0;
                for (int crease = 0; crease < parts - 1; crease++) {
                    if ((set & opened) == opened && mayOpen(crease, set)) {
                        ways[set] += ways[set | 1 << crease];
                    }
                }
            }
            return ways[opened];
        }

        private boolean mayOpen(int crease, int openBits) {
            return !isOpen(crease, openBits) && isClear(crease, openBits);
        }

        private int creaseOfFirstOrder(int k) {
            int shut = parts - 1 - Integer.bitCount(opened);
            if (k < 0 || k >= shut || countOrders() == 0) {
                return NONE;
            }
            int set = opened;
            int latest = NONE;
            for (int i = 0; i <= k; i++) {
                latest = firstSafe(set);
                set |= 1 << latest;
            }
            return latest;
        }

        private int firstSafe(int set) {
            int crease = 0;
            while (crease < parts - 2 && !(mayOpen(crease, set) && ways[set | 1 << crease] > 0)) {
                crease++;
            }
            return crease;
        }
    }

    /** A panel, and its bend where it is a flap. */
    private static final class Panel {
        private static final int MOST_SLANT = 8;
        private static final int[] COS = {1000, 985, 940, 866, 766, 643, 500, 342, 174};
        private static final int[] SIN = {0, 174, 342, 500, 643, 766, 866, 940, 985};
        private static final long SCALE = 100000000L;
        private static final int MOST_CURL = 2;
        private static final int DAYS_TO_CURL = 5;
        private final int x;
        private final int y;
        private final int area;
        private int back;
        private int kept;
        private boolean torn;
        private int curl;
        private int warmDays;
        private boolean isFlap;
        private int bend;
        private boolean stuck;

        private Panel(int x, int y, int area, int back, int kept) {
            this.x = x;
            this.y = y;
            this.area = area;
            this.back = back;
            this.kept = kept;
        }

        private int fact(int what) {
            switch (what) {
                case 0: return back;
                case 1: return kept;
                case 2: return torn ? 1 : 0;
                case 3: return curl;
                default: return warmDays;
            }
        }

        /** The panel's own slant, if it were bent so. */
        private int slantFor(int sailSlant, int withBend) {
            return Math.max(-MOST_SLANT, Math.min(MOST_SLANT, sailSlant + curl + withBend));
        }

        private int pushX(int sailSlant, int withBack, int withKept) {
            if (torn) {
                return 0;
            }
            long c = COS[Math.abs(slantFor(sailSlant, bend))];
            return (int) (area * c * (1000L * withKept + 2L * withBack * c) / SCALE);
        }

        private int pushY(int sailSlant) {
            if (torn) {
                return 0;
            }
            int slant = slantFor(sailSlant, bend);
            long c = COS[Math.abs(slant)];
            long n = slant < 0 ? -SIN[-slant] : SIN[slant];
            return (int) (area * c * (2L * back * n) / SCALE);
        }

        private int press(int sailSlant, int withBend) {
            if (torn) {
                return 0;
            }
            long c = COS[Math.abs(slantFor(sailSlant, withBend))];
            return (int) (area * c * c * (2L * back + kept) / SCALE);
        }

        private void live(int rho, boolean ages) {
            boolean warm = rho >= 0 && kept * 100 * 32 / (rho + 32) / 100 > 20;
            warmDays = warm ? warmDays + 1 : 0;
            if (warmDays == DAYS_TO_CURL) {
                warmDays = 0;
                curl = Math.min(MOST_CURL, curl + 1);
            }
            if (ages && back > 0) {
                back--;
                kept++;
            }
        }
    }

    /** All panels and flaps, with the weights. */
    private static final class Sail {
        private static final int MOST_PANELS = 16;
        private static final int MOST_FLAPS = 4;
        private static final int MOST_BEND = 2;
        private static final int BENDS = 2 * MOST_BEND + 1;
        private static final int MOST_TRIMS = 625;
        private static final int STEERING_SLANT = 3;
        private static final int MOST_STRENGTH = 20;
        private final Panel[] panels = new Panel[MOST_PANELS];
        private int panelCount;
        private final Panel[] flaps = new Panel[MOST_FLAPS];
        private int flapCount;
        private int weightX;
        private int weightY;
        private final int[] trimBends = new int[MOST_FLAPS];
        private final int[] bends = new int[MOST_FLAPS];
        private final int[] firstBends = new int[MOST_FLAPS];
        private final int[] lastBends = new int[MOST_FLAPS];
        private final int[] presses = new int[MOST_FLAPS * BENDS];
        private int restX;
        private int restY;

        private int addPanel(int x, int y, int area, int back, int kept) {
            if (panelCount == MOST_PANELS) {
                return -1;
            }
            panels[panelCount] = new Panel(x, y, area, back, kept);
            return panelCount++;
        }

        private boolean hasPanel(int panel) {
            return within(panel, 0, panelCount - 1);
        }

        private boolean hasFlap(int flap) {
            return within(flap, 0, flapCount - 1);
        }

        private int makeFlap(int panel) {
            if (flapCount == MOST_FLAPS) {
                return -1;
            }
            if (panels[panel].isFlap) {
                return -2;
            }
            panels[panel].isFlap = true;
            flaps[flapCount] = panels[panel];
            return flapCount++;
        }

        private int pushX(int slant) {
            return pushXFrom(0, slant);
        }

        /** The push along the light of the panels from one on. */
        private int pushXFrom(int from, int slant) {
            int sum = 0;
            for (int i = from; i < panelCount; i++) {
                sum += panels[i].pushX(slant, panels[i].back, panels[i].kept);
            }
            return sum;
        }

        private int pushY(int slant) {
            int sum = 0;
            for (int i = 0; i < panelCount; i++) {
                sum += panels[i].pushY(slant);
            }
            return sum;
        }

        private int strength() {
            return Math.max(0, Math.min(MOST_STRENGTH, pushY(STEERING_SLANT) / 100));
        }

        private int arm(Panel panel, int axis) {
            return axis == 0 ? panel.x - weightX : panel.y - weightY;
        }

        private int turnBy(int slant, int axis) {
            int sum = 0;
            for (int i = 0; i < panelCount; i++) {
                sum += panels[i].press(slant, panels[i].bend) * arm(panels[i], axis);
            }
            return sum;
        }

        private int tornPanels() {
            int torn = 0;
            for (int i = 0; i < panelCount; i++) {
                torn += panels[i].torn ? 1 : 0;
            }
            return torn;
        }

        /** Both turns' amounts under the trim, whose bends are left in trimBends. */
        private int findTrim(int slant) {
            sumUpRest(slant);
            tableFlaps(slant);
            int best = NONE;
            boolean more = true;
            for (int tries = 0; tries < MOST_TRIMS && more; tries++) {
                int amount = Math.abs(turnWithFlaps(restX, 0)) + Math.abs(turnWithFlaps(restY, 1));
                if (best == NONE || amount < best) {
                    best = amount;
                    System.arraycopy(bends, 0, trimBends, 0, MOST_FLAPS);
                }
                more = nextRow(bends, firstBends, lastBends, flapCount);
            }
            return best;
        }

        private void sumUpRest(int slant) {
            restX = 0;
            restY = 0;
            for (int i = 0; i < panelCount; i++) {
                if (!panels[i].isFlap) {
                    int press = panels[i].press(slant, 0);
                    restX += press * arm(panels[i], 0);
                    restY += press * arm(panels[i], 1);
                }
            }
        }

        private void tableFlaps(int slant) {
            for (int i = 0; i < flapCount; i++) {
                Panel flap = flaps[i];
                firstBends[i] = flap.stuck ? flap.bend : -MOST_BEND;
                lastBends[i] = flap.stuck ? flap.bend : MOST_BEND;
                bends[i] = firstBends[i];
                for (int b = -MOST_BEND; b <= MOST_BEND; b++) {
                    presses[i * BENDS + b + MOST_BEND] = flap.press(slant, b);
                }
            }
        }

        private int turnWithFlaps(int rest, int axis) {
            int sum = rest;
            for (int i = 0; i < flapCount; i++) {
                sum += presses[i * BENDS + bends[i] + MOST_BEND] * arm(flaps[i], axis);
            }
            return sum;
        }
    }

    /** A world that moves, with the chart of ways to it once that was asked for. */
    private static final class World {
        private final int rho;
        private final int startAngle;
        private final int speed;
        private Chart chart;

        private World(int rho, int startAngle, int speed) {
            this.rho = rho;
            this.startAngle = startAngle;
            this.speed = speed;
        }

        private int angleOn(int day) {
            return (startAngle + speed * day) % Voyage.ROUND;
        }

        /** How far an angle is ahead of the world's, round. */
        private int aheadOn(int day, int angle) {
            return Math.floorMod(angle - angleOn(day), Voyage.ROUND);
        }

        private Chart chartFor(int strength) {
            if (chart == null) {
                chart = new Chart(rho, speed);
            }
            chart.fitTo(strength);
            return chart;
        }
    }

    /**
     * From which places a world is met behind n days. Seen from the world, with angles ahead of its own, every day is
     * like another, so one chart serves for all days; a place is a rho with 72 bits of angles, in two halves.
     */
    private static final class Chart {
        private static final int MOST_DAYS = 40;
        private static final int RHO_ENDS = 4;
        private static final int ANGLE_ENDS = 2;
        private static final int HALF = 36;
        private static final long HALF_BITS = (1L << HALF) - 1;
        private static final int LAYER = 2 * (Voyage.MOST_RHO + 1);
        private final int worldSpeed;
        private int strength = NONE;
        private int known;
        private final long[] layers = new long[(MOST_DAYS + 1) * LAYER];

        private Chart(int worldRho, int worldSpeed) {
            this.worldSpeed = worldSpeed;
            int low = Math.max(0, worldRho - RHO_ENDS);
            int high = Math.min(Voyage.MOST_RHO, worldRho + RHO_ENDS);
            for (int rho = low; rho <= high; rho++) {
                layers[2 * rho] = (1L << (ANGLE_ENDS + 1)) - 1;
                layers[2 * rho + 1] = HALF_BITS ^ HALF_BITS >>> ANGLE_ENDS;
            }
        }

        private static boolean isMet(int rhoAway, int ahead) {
            boolean near = ahead <= ANGLE_ENDS || ahead >= Voyage.ROUND - ANGLE_ENDS;
            return near && Math.abs(rhoAway) <= RHO_ENDS;
        }

        /** The first layer serves for all; others are worked for one strength, and only as far as asked for. */
        private void fitTo(int newStrength) {
            if (strength != newStrength) {
                strength = newStrength;
                known = 1;
            }
        }

        /** The fewest days from a place to the world; NONE: there is no way. */
        private int fewestFrom(int rho, int ahead) {
            for (int days = 0; days <= MOST_DAYS; days++) {
                if (isIn(days, rho, ahead)) {
                    return days;
                }
            }
            return NONE;
        }

        /** The least steer of a place that is so many days away at the fewest. */
        private int firstSteer(int rho, int ahead, int days) {
            int steer = 0;
            int aheadThen = aheadBehind(rho, ahead);
            while (steer < 2 && !isIn(days - 1, rhoBehind(rho, steer, strength), aheadThen)) {
                steer++;
            }
            return steer;
        }

        private int aheadBehind(int rho, int ahead) {
            return Math.floorMod(ahead + turnOfDay(rho) - worldSpeed, Voyage.ROUND);
        }

        private boolean isIn(int days, int rho, int ahead) {
            if (!within(days, 0, MOST_DAYS) || !within(rho, 0, Voyage.MOST_RHO)) {
                return false;
            }
            for (; known <= days; known++) {
                workLayer(known);
            }
            int at = days * LAYER + 2 * rho;
            return ahead < HALF ? (layers[at] >> ahead & 1L) == 1L : (layers[at + 1] >> (ahead - HALF) & 1L) == 1L;
        }

        private void workLayer(int days) {
            int former = (days - 1) * LAYER;
            for (int rho = 0; rho <= Voyage.MOST_RHO; rho++) {
                int steps = stepsAt(rho, strength);
                long low = layers[former + 2 * rho];
                long high = layers[former + 2 * rho + 1];
                if (rho >= steps) {
                    low |= layers[former + 2 * (rho - steps)];
                    high |= layers[former + 2 * (rho - steps) + 1];
                }
                if (rho + steps <= Voyage.MOST_RHO) {
                    low |= layers[former + 2 * (rho + steps)];
                    high |= layers[former + 2 * (rho + steps) + 1];
                }
                int back = Math.floorMod(worldSpeed - turnOfDay(rho), Voyage.ROUND);
                storeTurned(days * LAYER + 2 * rho, low, high, back);
            }
        }

        /** Stores 72 bits with each one set on by a turn of 0 to 71. */
        private void storeTurned(int at, long low, long high, int turn) {
            boolean swaps = turn >= HALF;
            int by = swaps ? turn - HALF : turn;
            long first = swaps ? high : low;
            long second = swaps ? low : high;
            layers[at] = (first << by | second >>> (HALF - by)) & HALF_BITS;
            layers[at + 1] = (second << by | first >>> (HALF - by)) & HALF_BITS;
        }
    }

    /** Holds the tape, and reads it into rules or finds its first mistake. */
    private static final class Reader {
        private static final int MOST_BYTES = 300;
        private static final int BYTES_A_FEED = 20;
        private static final int NO_MISTAKE = 0;
        private static final int WRONG_SIGN = 1;
        private static final int GREAT_NUMBER = 2;
        private static final int TOO_MANY = 3;
        private static final int MOST_NUMBER = 9999;
        private static final int MOST_OPEN = 6;
        private final int[] text = new int[MOST_BYTES];
        private int tapeLength;
        private int length;
        private int at;
        private int next;
        private int kind;
        private int number;
        private int opens;
        private int mistake;
        private int place = NONE;
        private Rules result = new Rules();

        private boolean hasRoom() {
            return tapeLength + BYTES_A_FEED <= MOST_BYTES;
        }

        private void addNumber(int fed) {
            for (int shift = 24; shift >= 0 && tapeLength < MOST_BYTES; shift -= 8) {
                text[tapeLength] = fed >> shift & 255;
                tapeLength++;
            }
        }

        private void readTape(int newLength) {
            length = Math.min(newLength, tapeLength);
            tapeLength = 0;
            result.forget();
            next = 0;
            opens = 0;
            mistake = NO_MISTAKE;
            place = NONE;
            scan();
            for (int rule = 0; rule <= Rules.MOST_RULES && goesOn() && kind != Rules.END; rule++) {
                readRule();
            }
        }

        private boolean goesOn() {
            return mistake == NO_MISTAKE;
        }

        private void refuse(int newMistake) {
            if (goesOn()) {
                mistake = newMistake;
                place = at;
            }
        }

        private void readRule() {
            int steer = kind - Rules.IN;
            if (steer < 0 || kind > Rules.OUT) {
                refuse(WRONG_SIGN);
            } else if (result.count == Rules.MOST_RULES) {
                refuse(TOO_MANY);
            } else {
                scan();
                demand(Rules.IF);
                readChoice();
                demand(';');
                result.endRule(steer);
            }
        }

        private void demand(int wanted) {
            if (kind != wanted) {
                refuse(WRONG_SIGN);
            } else if (goesOn()) {
                scan();
            }
        }

        /** Goes into a bracket or a not. */
        private void enter() {
            if (opens >= MOST_OPEN) {
                refuse(TOO_MANY);
            } else {
                opens++;
                scan();
            }
        }

        private void readChoice() {
            readBoth();
            for (int i = 0; i < length && goesOn() && kind == Rules.OR; i++) {
                scan();
                readBoth();
                result.add(-Rules.OR);
            }
        }

        private void readBoth() {
            readTest();
            for (int i = 0; i < length && goesOn() && kind == Rules.AND; i++) {
                scan();
                readTest();
                result.add(-Rules.AND);
            }
        }

        private void readTest() {
            if (!goesOn()) {
                return;
            }
            if (kind == Rules.NOT) {
                enter();
                readTest();
                opens--;
                result.add(-Rules.NOT);
            } else if (kind == '[') {
                enter();
                readChoice();
                demand(']');
                opens--;
            } else {
                readSum();
                int sign = kind;
                demandComparing();
                readSum();
                result.add(-sign);
            }
        }

        private void demandComparing() {
            if (kind != '<' && kind != '>' && kind != '=') {
                refuse(WRONG_SIGN);
            } else if (goesOn()) {
                scan();
            }
        }

        private void readSum() {
            readProduct();
            for (int i = 0; i < length && goesOn() && (kind == '+' || kind == '-'); i++) {
                int sign = kind;
                scan();
                readProduct();
                result.add(-sign);
            }
        }

        private void readProduct() {
            readUnit();
            for (int i = 0; i < length && goesOn() && (kind == '*' || kind == '/'); i++) {
                int sign = kind;
                scan();
                readUnit();
                result.add(-sign);
            }
        }

        private void readUnit() {
            if (!goesOn()) {
                return;
            }
            if (kind == Rules.NUMBER) {
                readNumber();
            } else if (kind >= Rules.RHO && kind <= Rules.TORN) {
                result.add(-kind);
                scan();
            } else if (kind == '(') {
                enter();
                readSum();
                demand(')');
                opens--;
            } else if (kind == Rules.LEAST || kind == Rules.MOST) {
                readPair(kind);
            } else {
                refuse(WRONG_SIGN);
            }
        }

        private void readNumber() {
            if (number > MOST_NUMBER) {
                refuse(GREAT_NUMBER);
            } else {
                result.add(number);
                scan();
            }
        }

        private void readPair(int word) {
            scan();
            if (kind != '(') {
                refuse(WRONG_SIGN);
                return;
            }
            enter();
            readSum();
            demand(',');
            readSum();
            demand(')');
            opens--;
            result.add(-word);
        }

        private void scan() {
            at = next;
            while (at < length && text[at] == ' ') {
                at++;
            }
            next = at;
            if (at >= length) {
                kind = Rules.END;
            } else if (text[at] >= 'a' && text[at] <= 'z') {
                scanWord();
            } else if (text[at] >= '0' && text[at] <= '9') {
                scanNumber();
            } else {
                kind = text[at];
                next = at + 1;
            }
        }

        private void scanWord() {
            while (next < length && text[next] >= 'a' && text[next] <= 'z') {
                next++;
            }
            kind = Rules.STRANGE;
            for (int word = 0; word < Rules.WORD_COUNT && next - at <= Rules.WIDTH; word++) {
                int same = 0;
                for (int i = 0; i < Rules.WIDTH; i++) {
                    int sign = at + i < next ? text[at + i] : ' ';
                    same += sign == Rules.WORDS.charAt(word * Rules.WIDTH + i) ? 1 : 0;
                }
                if (same == Rules.WIDTH) {
                    kind = Rules.IN + word;
                }
            }
        }

        private void scanNumber() {
            kind = Rules.NUMBER;
            number = 0;
            while (next < length && text[next] >= '0' && text[next] <= '9') {
                // Digits behind a number that is too great do not matter, and would wrap.
                if (number <= MOST_NUMBER) {
                    number = 10 * number + text[next] - '0';
                }
                next++;
            }
        }
    }

    /**
     * Rules as rows of numbers and of kinds of signs, less than 0, each behind what it works on. A sign that is neither
     * a word nor a number has its byte for a kind.
     */
    private static final class Rules {
        private static final int WIDTH = 5;
        private static final String WORDS =
                "in   keep out  if   or   and  not  rho  angleday  far  lead stepstorn leastmost ";
        private static final int WORD_COUNT = 16;
        private static final int IN = 300;
        private static final int OUT = 302;
        private static final int IF = 303;
        private static final int OR = 304;
        private static final int AND = 305;
        private static final int NOT = 306;
        private static final int RHO = 307;
        private static final int TORN = 313;
        private static final int LEAST = 314;
        private static final int MOST = 315;
        private static final int STRANGE = 316;
        private static final int NUMBER = 317;
        private static final int END = 318;
        private static final int MOST_RULES = 16;
        // Six brackets open, each with a pair, a sum and a product begun, need 24.
        private static final int MOST_HEAP = 32;
        private final int[] code = new int[Reader.MOST_BYTES];
        private final int[] ends = new int[MOST_RULES];
        private final int[] steers = new int[MOST_RULES];
        private final int[] heap = new int[MOST_HEAP];
        private int size;
        private int count;

        private void forget() {
            size = 0;
            count = 0;
        }

        private void add(int item) {
            if (size < code.length) {
                code[size] = item;
                size++;
            }
        }

        private void endRule(int steer) {
            if (count < MOST_RULES) {
                ends[count] = size;
                steers[count] = steer;
                count++;
            }
        }

        private int steerOf(int rule) {
            return within(rule, 0, count - 1) ? steers[rule] : 1;
        }

        /** The first rule that holds for the values of the seven words; NONE: none does. */
        private int firstHolding(int[] values) {
            for (int rule = 0; rule < count; rule++) {
                if (holds(rule == 0 ? 0 : ends[rule - 1], ends[rule], values)) {
                    return rule;
                }
            }
            return NONE;
        }

        private boolean holds(int from, int to, int[] values) {
            int high = 0;
            for (int i = from; i < to; i++) {
                int word = -code[i];
                boolean isNumber = word <= 0;
                boolean isValue = within(word - RHO, 0, values.length - 1);
                if (isNumber || isValue) {
                    if (high < MOST_HEAP) {
                        heap[high] = isNumber ? code[i] : values[word - RHO];
                        high++;
                    }
                } else if (word == NOT && high >= 1) {
                    heap[high - 1] = 1 - heap[high - 1];
                } else if (high >= 2) {
                    heap[high - 2] = work(word, heap[high - 2], heap[high - 1]);
                    high--;
                }
            }
            return high == 1 && heap[0] == 1;
        }

        private static int work(int word, int a, int b) {
            switch (word) {
                case '+': return a + b;
                case '-': return a - b;
                case '*': return a * b;
                case '/': return b == 0 ? 0 : a / b;
                case '<': return a < b ? 1 : 0;
                case '>': return a > b ? 1 : 0;
                case '=': return a == b ? 1 : 0;
                case OR: return a | b;
                case AND: return a & b;
                case LEAST: return Math.min(a, b);
                default: return Math.max(a, b);
            }
        }
    }

    /** The sail's place and day, the worlds, the dust, and the notes of days flown. */
    private static final class Voyage {
        private static final int MOST_RHO = 255;
        private static final int ROUND = 72;
        private static final int MOST_WORLDS = 4;
        private static final int MOST_DUST = 20;
        private static final int MOST_NOTES = 64;
        private static final int MOST_WAITING = 20;
        private static final int KEEP = 1;
        private int day;
        private int rho = 100;
        private int angle;
        private int goal = NONE;
        private final World[] worlds = new World[MOST_WORLDS];
        private int worldCount;
        private final int[] dustPanels = new int[MOST_DUST];
        private final int[] dustDays = new int[MOST_DUST];
        private int dustCount;
        private final int[] notes = new int[4 * MOST_NOTES];
        private final int[] values = new int[7];

        private int addWorld(int newRho, int newAngle, int speed) {
            if (worldCount == MOST_WORLDS) {
                return -1;
            }
            worlds[worldCount] = new World(newRho, newAngle, speed);
            return worldCount++;
        }

        private boolean hasWorld(int world) {
            return within(world, 0, worldCount - 1);
        }

        private boolean isGoalMet() {
            if (!hasWorld(goal)) {
                return false;
            }
            World world = worlds[goal];
            return Chart.isMet(rho - world.rho, world.aheadOn(day, angle));
        }

        /** The fewest days to a world behind some days of keep; NONE: there is no way. */
        private int fewestDays(int world, int waiting, int strength) {
            int angleThen = angle + waiting * turnOfDay(rho);
            int ahead = worlds[world].aheadOn(day + waiting, angleThen);
            return worlds[world].chartFor(strength).fewestFrom(rho, ahead);
        }

        private int steerOfFirstWay(int world, int k, int strength) {
            int days = fewestDays(world, 0, strength);
            if (k >= days) {
                return NONE;
            }
            Chart chart = worlds[world].chartFor(strength);
            int rhoThen = rho;
            int ahead = worlds[world].aheadOn(day, angle);
            int steer = KEEP;
            for (int i = 0; i <= k; i++) {
                steer = chart.firstSteer(rhoThen, ahead, days - i);
                ahead = chart.aheadBehind(rhoThen, ahead);
                rhoThen = rhoBehind(rhoThen, steer, strength);
            }
            return steer;
        }

        private int daysInAll(int world, int waiting, int strength) {
            int fewest = fewestDays(world, waiting, strength);
            return fewest == NONE ? NONE : waiting + fewest;
        }

        private int bestWaiting(int world, int strength) {
            int best = NONE;
            int bestDays = NONE;
            for (int waiting = 0; waiting <= MOST_WAITING; waiting++) {
                int fewest = fewestDays(world, waiting, strength);
                if (fewest != NONE && (best == NONE || waiting + fewest < bestDays)) {
                    best = waiting;
                    bestDays = waiting + fewest;
                }
            }
            return best;
        }

        private int addDust(int panel, int dustDay) {
            if (dustCount == MOST_DUST) {
                return -1;
            }
            dustPanels[dustCount] = panel;
            dustDays[dustCount] = dustDay;
            dustCount++;
            return dustCount;
        }

        private int firstRule(Sail sail, Rules rules, int strength) {
            boolean hasGoal = hasWorld(goal);
            values[0] = rho;
            values[1] = angle;
            values[2] = day;
            values[3] = hasGoal ? worlds[goal].rho - rho : 0;
            values[4] = hasGoal ? Math.floorMod(worlds[goal].angleOn(day) - angle, ROUND) : 0;
            values[5] = stepsAt(rho, strength);
            values[6] = sail.tornPanels();
            return rules.firstHolding(values);
        }

        private int flyFor(int days, Sail sail, Rules rules) {
            int flown = 0;
            boolean stops = false;
            while (flown < days && !stops) {
                flyDay(sail, rules);
                flown++;
                stops = isGoalMet();
            }
            return flown;
        }

        private void flyDay(Sail sail, Rules rules) {
            int strength = sail.strength();
            int rule = firstRule(sail, rules, strength);
            int steer = rule == NONE ? KEEP : rules.steerOf(rule);
            if (!within(rhoBehind(rho, steer, strength), 0, MOST_RHO)) {
                steer = KEEP;
            }
            angle = (angle + turnOfDay(rho)) % ROUND;
            rho = rhoBehind(rho, steer, strength);
            tearByDust(sail);
            for (int i = 0; i < sail.panelCount; i++) {
                if (!sail.panels[i].torn) {
                    sail.panels[i].live(rho, day % 10 == 9);
                }
            }
            takeNote(steer, strength);
            day++;
        }

        private void tearByDust(Sail sail) {
            for (int i = 0; i < dustCount; i++) {
                if (dustDays[i] == day && sail.hasPanel(dustPanels[i])) {
                    sail.panels[dustPanels[i]].torn = true;
                }
            }
        }

        private void takeNote(int steer, int strength) {
            int at = 4 * (day % MOST_NOTES);
            notes[at] = steer;
            notes[at + 1] = rho;
            notes[at + 2] = angle;
            notes[at + 3] = strength;
        }

        private int noteOf(int noteDay, int what) {
            boolean isKept = noteDay >= Math.max(0, day - MOST_NOTES) && noteDay < day;
            return isKept ? notes[4 * (noteDay % MOST_NOTES) + what] : NONE;
        }
    }

    /** Coats and sights: which coats the first panels may have. */
    private static final class Hiding {
        private static final int MOST_COATS = 5;
        private static final int MOST_SIGHTS = 6;
        private static final int MOST_HIDDEN = 4;
        private static final int MOST_FITS = 625;
        private static final int SLANTS = 2 * Panel.MOST_SLANT + 1;
        // One panel is pushed by 2,000 at most, four by 8,000.
        private static final int MARKS = 126;
        private final int[] backs = new int[MOST_COATS];
        private final int[] kepts = new int[MOST_COATS];
        private int coatCount;
        private final int[] slants = new int[MOST_SIGHTS];
        private final int[] pushes = new int[MOST_SIGHTS];
        private final int[] ends = new int[MOST_SIGHTS];
        private int sightCount;
        private final int[] rest = new int[SLANTS];
        private final int[] shares = new int[SLANTS * MOST_HIDDEN * MOST_COATS];
        private final int[] row = new int[MOST_HIDDEN];
        private final int[] firstCoats = new int[MOST_HIDDEN];
        private final int[] lastCoats = new int[MOST_HIDDEN];
        private final int[] found = new int[MOST_FITS];
        private int foundCount;
        private final long[] marks = new long[MARKS];

        private int addCoat(int back, int kept) {
            if (coatCount == MOST_COATS) {
                return -1;
            }
            backs[coatCount] = back;
            kepts[coatCount] = kept;
            return coatCount++;
        }

        private int addSight(int slant, int x, int end) {
            if (sightCount == MOST_SIGHTS) {
                return -1;
            }
            slants[sightCount] = slant;
            pushes[sightCount] = x;
            ends[sightCount] = end;
            sightCount++;
            return sightCount;
        }

        /** How many fits there are for the first m panels; they are left in found, three bits a panel. */
        private int findFits(Sail sail, int m) {
            foundCount = 0;
            tableShares(sail, m);
            for (int i = 0; i < m; i++) {
                row[i] = 0;
                lastCoats[i] = coatCount - 1;
            }
            boolean more = coatCount > 0;
            for (int tries = 0; tries < MOST_FITS && more; tries++) {
                int packed = packedRow(m);
                if (holdsAll(packed, m)) {
                    found[foundCount] = packed;
                    foundCount++;
                }
                more = nextRow(row, firstCoats, lastCoats, m);
            }
            return foundCount;
        }

        private void tableShares(Sail sail, int m) {
            for (int slant = -Panel.MOST_SLANT; slant <= Panel.MOST_SLANT; slant++) {
                rest[slant + Panel.MOST_SLANT] = sail.pushXFrom(m, slant);
                for (int i = 0; i < m; i++) {
                    for (int coat = 0; coat < coatCount; coat++) {
                        shares[shareAt(slant, i, coat)] = sail.panels[i].pushX(slant, backs[coat], kepts[coat]);
                    }
                }
            }
        }

        private static int shareAt(int slant, int panel, int coat) {
            return ((slant + Panel.MOST_SLANT) * MOST_HIDDEN + panel) * MOST_COATS + coat;
        }

        private int packedRow(int m) {
            int packed = 0;
            for (int i = 0; i < m; i++) {
                packed |= row[i] << (3 * i);
            }
            return packed;
        }

        private static int coatIn(int packed, int panel) {
            return packed >> (3 * panel) & 7;
        }

        private int coatOf(int fitNumber, int panel) {
            return within(fitNumber, 0, foundCount - 1) ? coatIn(found[fitNumber], panel) : NONE;
        }

        private boolean holdsAll(int packed, int m) {
            for (int i = 0; i < sightCount; i++) {
                int push = rest[slants[i] + Panel.MOST_SLANT] + hiddenPush(packed, m, slants[i]);
                if (Math.abs(push - pushes[i]) > ends[i]) {
                    return false;
                }
            }
            return true;
        }

        private int hiddenPush(int packed, int m, int slant) {
            int sum = 0;
            for (int i = 0; i < m; i++) {
                sum += shares[shareAt(slant, i, coatIn(packed, i))];
            }
            return sum;
        }

        private int bestSlant(int m) {
            int best = 0;
            int most = 0;
            for (int slant = -Panel.MOST_SLANT; slant <= Panel.MOST_SLANT; slant++) {
                int unlike = unlikePushes(m, slant);
                if (unlike > most) {
                    most = unlike;
                    best = slant;
                }
            }
            return best;
        }

        private int unlikePushes(int m, int slant) {
            for (int i = 0; i < MARKS; i++) {
                marks[i] = 0L;
            }
            int unlike = 0;
            for (int i = 0; i < foundCount; i++) {
                int push = hiddenPush(found[i], m, slant);
                long bit = 1L << (push & 63);
                if (within(push >> 6, 0, MARKS - 1) && (marks[push >> 6] & bit) == 0L) {
                    marks[push >> 6] |= bit;
                    unlike++;
                }
            }
            return unlike;
        }
    }

    /**
     * A net of strings. Its stands are a body with corners, if there are any: each corner is the only stand of a set of
     * strings (all others at 0), so all sets are tried, in whole numbers; all of them stay well below 2^63.
     */
    private static final class Net {
        private static final int MOST_KNOTS = 6;
        private static final int MOST_STRINGS = 6;
        private final int[] knotX = new int[MOST_KNOTS];
        private final int[] knotY = new int[MOST_KNOTS];
        private final int[] pullX = new int[MOST_KNOTS];
        private final int[] pullY = new int[MOST_KNOTS];
        private final boolean[] isHeld = new boolean[MOST_KNOTS];
        private int knotCount;
        private final int[] starts = new int[MOST_STRINGS];
        private final int[] ends = new int[MOST_STRINGS];
        private int stringCount;
        private boolean settled;
        private boolean hanging;
        private int slackBits;
        private int tautBits;
        private long easeAbove;
        private long easeBelow;
        private final long[][] table = new long[2 * MOST_KNOTS][MOST_STRINGS + 1];
        private int rows;
        private int columns;
        private long divisor;

        private boolean hasKnot(int knot) {
            return within(knot, 0, knotCount - 1);
        }

        private boolean hasString(int string) {
            return within(string, 0, stringCount - 1);
        }

        private int addKnot(int x, int y, boolean held) {
            if (knotCount == MOST_KNOTS) {
                return -1;
            }
            settled = false;
            knotX[knotCount] = x;
            knotY[knotCount] = y;
            isHeld[knotCount] = held;
            pullX[knotCount] = 0;
            pullY[knotCount] = 0;
            return knotCount++;
        }

        private void setPull(int knot, int x, int y) {
            settled = false;
            pullX[knot] = x;
            pullY[knot] = y;
        }

        private int addString(int knot, int other) {
            if (stringCount == MOST_STRINGS) {
                return -1;
            }
            if (knotX[knot] == knotX[other] && knotY[knot] == knotY[other]) {
                return -2;
            }
            if (isTied(knot, other)) {
                return -3;
            }
            settled = false;
            starts[stringCount] = knot;
            ends[stringCount] = other;
            return stringCount++;
        }

        private boolean isTied(int knot, int other) {
            for (int i = 0; i < stringCount; i++) {
                boolean so = starts[i] == knot && ends[i] == other;
                if (so || starts[i] == other && ends[i] == knot) {
                    return true;
                }
            }
            return false;
        }

        private int cutAll() {
            int had = stringCount;
            settled = false;
            knotCount = 0;
            stringCount = 0;
            return had;
        }

        /** Works out all that can be asked of the net, if it has changed. */
        private void settle() {
            if (settled) {
                return;
            }
            settled = true;
            hanging = false;
            slackBits = 0;
            tautBits = 0;
            for (int set = 0; set < 1 << stringCount; set++) {
                if (balances(set, NONE)) {
                    takeStand(set);
                }
            }
            for (int string = 0; hanging && string < stringCount; string++) {
                if ((tautBits >> string & 1) == 0 && canGrow(string)) {
                    tautBits |= 1 << string;
                }
            }
            reduceEase();
        }

        /** Whether a set of strings has one stand, against the pulls or against a string drawn with 1. */
        private boolean balances(int set, int drawn) {
            fillTable(set, drawn);
            return eliminate() && pullsOnly();
        }

        private void fillTable(int set, int drawn) {
            rows = 0;
            columns = Integer.bitCount(set);
            for (int knot = 0; knot < knotCount; knot++) {
                if (!isHeld[knot]) {
                    fillRow(set, drawn, knot, 0);
                    fillRow(set, drawn, knot, 1);
                }
            }
        }

        private void fillRow(int set, int drawn, int knot, int axis) {
            int column = 0;
            for (int string = 0; string < stringCount; string++) {
                if ((set >> string & 1) == 1) {
                    table[rows][column] = wayOf(string, knot, axis);
                    column++;
                }
            }
            int pull = axis == 0 ? pullX[knot] : pullY[knot];
            table[rows][columns] = drawn == NONE ? -pull : -wayOf(drawn, knot, axis);
            rows++;
        }

        private int wayOf(int string, int knot, int axis) {
            int[] spots = axis == 0 ? knotX : knotY;
            int way = spots[ends[string]] - spots[starts[string]];
            if (starts[string] == knot) {
                return way;
            }
            return ends[string] == knot ? -way : 0;
        }

        /** Without fractions: each step's division leaves nothing, as all entries are minors of the table. */
        private boolean eliminate() {
            divisor = 1;
            for (int column = 0; column < columns; column++) {
                int pivot = column;
                while (pivot < rows && table[pivot][column] == 0L) {
                    pivot++;
                }
                if (pivot >= rows) {
                    return false;
                }
                long[] swapped = table[pivot];
                table[pivot] = table[column];
                table[column] = swapped;
                for (int row = 0; row < rows; row++) {
                    if (row != column) {
                        clearEntry(row, column);
                    }
                }
                divisor = table[column][column];
            }
            return true;
        }

        private void clearEntry(int row, int column) {
            long lead = table[column][column];
            long factor = table[row][column];
            for (int i = 0; i <= columns && divisor != 0L; i++) {
                table[row][i] = (lead * table[row][i] - factor * table[column][i]) / divisor;
            }
        }

        private boolean pullsOnly() {
            for (int row = 0; row < rows; row++) {
                long above = table[row][columns];
                boolean fits = row >= columns ? above == 0L : above == 0L || above > 0L == divisor > 0L;
                if (!fits) {
                    return false;
                }
            }
            return true;
        }

        private void takeStand(int set) {
            long sum = 0;
            int column = 0;
            int tautHere = 0;
            for (int string = 0; string < stringCount; string++) {
                if ((set >> string & 1) == 1) {
                    long above = Math.abs(table[column][columns]);
                    sum += above;
                    tautHere |= above > 0L ? 1 << string : 0;
                    column++;
                }
            }
            tautBits |= tautHere;
            slackBits |= ~tautHere;
            long below = Math.abs(divisor);
            if (!hanging || sum * easeBelow < easeAbove * below) {
                easeAbove = sum;
                easeBelow = below;
            }
            hanging = true;
        }

        /** Whether more of a string's tension can be taken up by the others alone. */
        private boolean canGrow(int string) {
            for (int set = 0; set < 1 << stringCount; set++) {
                if ((set >> string & 1) == 0 && balances(set, string)) {
                    return true;
                }
            }
            return false;
        }

        private void reduceEase() {
            long a = easeAbove;
            long b = easeBelow;
            for (int i = 0; i < 100 && b != 0L; i++) {
                long left = a % b;
                a = b;
                b = left;
            }
            if (hanging && a != 0L) {
                easeAbove /= a;
                easeBelow /= a;
            }
        }
    }

    /** Offers of panels, and the best sheet of them. */
    private static final class Catalog {
        private static final int MOST_OFFERS = 12;
        private final int[] xs = new int[MOST_OFFERS];
        private final int[] ys = new int[MOST_OFFERS];
        private final int[] gains = new int[MOST_OFFERS];
        private final int[] costs = new int[MOST_OFFERS];
        private int size;
        // A sheet's set, gain, cost, and both turns.
        private final int[] best = new int[5];
        private final int[] tried = new int[5];

        private int addOffer(int x, int y, int gain, int cost) {
            if (size == MOST_OFFERS) {
                return -1;
            }
            xs[size] = x;
            ys[size] = y;
            gains[size] = gain;
            costs[size] = cost;
            return size++;
        }

        /** Goes through all sets so that each differs from the one before by one offer. */
        private void findBest(int budget, int bound) {
            for (int i = 0; i < best.length; i++) {
                best[i] = 0;
                tried[i] = 0;
            }
            for (int i = 1; i < 1 << size; i++) {
                change(Integer.numberOfTrailingZeros(i));
                boolean balanced = Math.abs(tried[3]) <= bound && Math.abs(tried[4]) <= bound;
                if (tried[2] <= budget && balanced && isBetter()) {
                    System.arraycopy(tried, 0, best, 0, best.length);
                }
            }
        }

        private void change(int offer) {
            if (!within(offer, 0, size - 1)) {
                return;
            }
            tried[0] ^= 1 << offer;
            int sign = (tried[0] >> offer & 1) == 1 ? 1 : -1;
            tried[1] += sign * gains[offer];
            tried[2] += sign * costs[offer];
            tried[3] += sign * gains[offer] * xs[offer];
            tried[4] += sign * gains[offer] * ys[offer];
        }

        private boolean isBetter() {
            if (tried[1] != best[1]) {
                return tried[1] > best[1];
            }
            if (tried[2] != best[2]) {
                return tried[2] < best[2];
            }
            int unlike = tried[0] ^ best[0];
            return (tried[0] & unlike & -unlike) != 0;
        }
    }
}
