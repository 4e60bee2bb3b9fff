/** Promises 1 to 8, sentence by sentence: a new object; strips, piles, creases. */
public final class P01To08Test {
    private static final int[] FAR = {Integer.MIN_VALUE, Integer.MAX_VALUE};

    public static void main(String[] args) throws IllegalAccessException {
        Sentences.run(P01To08Test.class);
    }

    /** A pile as lies takes it: its lowest layer first. */
    private static int pile(int... parts) {
        int told = 0;
        for (int k = 0; k < parts.length; k++) {
            told |= parts[k] << (3 * k);
        }
        return told;
    }

    private static LightSails strip(int parts, int up) {
        LightSails x = new LightSails();
        x.strip(parts, up);
        return x;
    }

    private static void layers(Check check, LightSails x, int... due) {
        for (int k = 0; k < due.length; k++) {
            check.same("layer " + k, x.layer(k), due[k]);
        }
        check.same("layer above all", x.layer(due.length), -1);
    }

    @Says("DAY 0 at RHO 100, ANGLE 0; no STRIP, PANELS, WORLDS; no RULES.")
    static void p01NewObject(Check check) {
        LightSails x = new LightSails();
        check.same("day", x.count(0), 0);
        check.same("rho", x.count(1), 100);
        check.same("angle", x.count(2), 0);
        check.same("layer of no strip", x.layer(0), -1);
        check.badState("orders of no strip", x::orders);
        check.same("panels", x.count(3), 0);
        check.noElement("panel 0", () -> x.of(0, 0));
        check.same("worlds", x.count(5), 0);
        check.badIndex("world 0", () -> x.angle(0, 0));
        check.same("rules", x.count(6), 0);
        check.same("asks of no rules", x.asks(), -9);
    }

    @Says("DAY 0 at RHO 100, ANGLE 0; no STRIP, PANELS, WORLDS; no RULES.")
    static void p01NewObjectHasNothingOfOthers(Check check) {
        Things.full();
        LightSails x = new LightSails();
        int[] due = {0, 100, 0, 0, 0, 0, 0, 0, 1, 0, 0, 0, 0, 0, 0, 0, 0, 0};
        for (int what = 0; what < due.length; what++) {
            check.same("count " + what, x.count(what), due[what]);
        }
    }

    @Says({"A STRIP has 2 to 8 PARTS, numbered along it from 0 on", "IllegalArgumentException: not 2 to 8,"})
    static void p02TwoToEightParts(Check check) {
        Ends.ofArgument(check, "parts", 2, 8, v -> new LightSails().strip(v, 0));
        for (int parts : new int[] {-8, -2, -1, 0, 10, 32, 33, 34, 40}) {
            check.badArgument("parts " + parts, () -> new LightSails().strip(parts, 0));
        }
        LightSails x = strip(8, 85);
        layers(check, x, 0, 1, 2, 3, 4, 5, 6, 7);
    }

    @Says({"its CREASES UP by bits: in how many PILES it LIES.", "or bits of no CREASE."})
    static void p02BitsOfCreases(Check check) {
        for (int parts = 2; parts <= 8; parts++) {
            int p = parts;
            int all = (1 << (p - 1)) - 1;
            check.yes("all up " + p, new LightSails().strip(p, all) > 0);
            check.yes("all down " + p, new LightSails().strip(p, 0) > 0);
            for (int wrong : new int[] {all + 1, all + 2, 1 << 8, 1 << 30, 1 << 31, -1, -2, Integer.MAX_VALUE}) {
                check.badArgument("strip " + p + " " + wrong, () -> new LightSails().strip(p, wrong));
            }
        }
    }

    @Says("and a CREASE i between PART i and the next one, UP or DOWN.")
    static void p02LastCreaseCounts(Check check) {
        // Part 7 lies above part 6 if the last crease (6, even) is up, else below.
        check.same("all rising", new LightSails().strip(8, 85), 1);
        layers(check, strip(8, 85), 0, 1, 2, 3, 4, 5, 6, 7);
        LightSails x = strip(8, 85 - 64);
        check.same("the last part is below the one ahead of it", x.layer(7), 6);
    }

    @Says({"A STRIP of so many PARTS", "PART i + 1 is above PART i, if i is even and the CREASE UP, or i odd and it DOWN, "
        + "else below;"})
    static void p02AboveOrBelow(Check check) {
        layers(check, strip(2, 1), 0, 1);
        layers(check, strip(2, 0), 1, 0);
        // Crease 1 is odd: down it rises, up it falls.
        check.same("rising twice", new LightSails().strip(3, 1), 1);
        layers(check, strip(3, 1), 0, 1, 2);
        check.same("falling twice", new LightSails().strip(3, 2), 1);
        layers(check, strip(3, 2), 2, 1, 0);
        check.same("1 above both", new LightSails().strip(3, 3), 2);
        check.same("1 below both", new LightSails().strip(3, 0), 2);
    }

    @Says("CREASES are SHUT at first (when a STRIP is told), or OPEN.")
    static void p02NewStripIsShut(Check check) {
        LightSails x = strip(3, 1);
        check.same("open", x.open(0), 1);
        check.same("open", x.open(1), 1);
        check.same("open creases", x.count(14), 2);
        check.same("the same strip again", x.strip(3, 1), 1);
        check.same("open creases", x.count(14), 0);
        check.yes("crease 0 is shut", x.clear(0));
        check.yes("crease 1 is shut", x.clear(1));
    }

    @Says("IllegalArgumentException: not 2 to 8, or bits of no CREASE.")
    static void p02RefusedStripChangesNothing(Check check) {
        LightSails none = new LightSails();
        check.badArgument("strip 9", () -> none.strip(9, 0));
        check.badArgument("bits", () -> none.strip(2, 2));
        check.same("no strip came", none.layer(0), -1);
        check.badState("no strip came", none::orders);
        LightSails x = strip(3, 3);
        x.open(0);
        check.badArgument("strip 1", () -> x.strip(1, 0));
        check.badArgument("strip 3 4", () -> x.strip(3, 4));
        layers(check, x, 0, 2, 1);
        check.same("the open crease stays", x.count(14), 1);
    }

    @Says("The PART in a LAYER of THE PILE; NONE: there is none.")
    static void p03LayersOfThePile(Check check) {
        check.same("no strip", new LightSails().layer(0), -1);
        for (int parts = 2; parts <= 8; parts++) {
            LightSails x = strip(parts, 85 & (1 << (parts - 1)) - 1);
            check.same("lowest of " + parts, x.layer(0), 0);
            check.same("highest of " + parts, x.layer(parts - 1), parts - 1);
            check.same("below " + parts, x.layer(-1), -1);
            check.same("above " + parts, x.layer(parts), -1);
            for (int k : FAR) {
                check.same("layer " + k, x.layer(k), -1);
            }
        }
    }

    @Says("Folded, all lie upon each other in LAYERS, from 0 below on: a PILE is a row of PARTS, by LAYERS.")
    static void p03ShorterStripHasFewerLayers(Check check) {
        LightSails x = strip(8, 85);
        x.strip(2, 0);
        layers(check, x, 1, 0);
        for (int k = 2; k < 8; k++) {
            check.same("layer " + k + " of the strip that was", x.layer(k), -1);
        }
    }

    @Says("THE PILE is of all that LIE the first (LAYER by LAYER the PART with the least number).")
    static void p03ThePileIsTheFirst(Check check) {
        // Of 0 2 1 and 2 0 1, and of 1 0 2 and 1 2 0.
        layers(check, strip(3, 3), 0, 2, 1);
        layers(check, strip(3, 0), 1, 0, 2);
        // Of 0 1 3 2 and 3 0 1 2.
        layers(check, strip(4, 1), 0, 1, 3, 2);
    }

    @Says("IllegalStateException: there is no STRIP;")
    static void p04NoStrip(Check check) {
        LightSails x = new LightSails();
        for (int pile : new int[] {8, 0, -1, 1, Integer.MIN_VALUE}) {
            check.badState("lies " + pile, () -> Check.number(x.lies(pile)));
        }
    }

    @Says({"Whether a PILE told LIES (three bits a LAYER, the lowest LAYER first, each PART once).",
        "IllegalArgumentException: it is none of its PARTS."})
    static void p04EachPartOnce(Check check) {
        LightSails x = strip(3, 1);
        check.yes("0 1 2", x.lies(pile(0, 1, 2)));
        check.no("2 1 0", x.lies(pile(2, 1, 0)));
        int[] wrong = {pile(0, 1, 1), pile(0, 0, 2), pile(2, 2, 2), pile(0, 1), 0, pile(2, 0), pile(0, 1, 3),
            pile(3, 1, 2), pile(0, 7, 2), pile(0, 1, 2, 3), pile(0, 1, 2, 1), pile(0, 1, 2) | 1 << 9,
            pile(0, 1, 2) | 1 << 24, pile(0, 1, 2) | 1 << 30, pile(0, 1, 2) | 1 << 31, -1, Integer.MAX_VALUE,
            Integer.MIN_VALUE};
        for (int told : wrong) {
            check.badArgument("lies " + told, () -> Check.number(x.lies(told)));
        }
    }

    @Says("(three bits a LAYER, the lowest LAYER first, each PART once)")
    static void p04ShortestAndLongestPile(Check check) {
        LightSails two = strip(2, 1);
        check.yes("0 1", two.lies(pile(0, 1)));
        check.no("1 0", two.lies(pile(1, 0)));
        check.badArgument("0 1 and part 2", () -> Check.number(two.lies(pile(0, 1, 2))));
        check.badArgument("0 2", () -> Check.number(two.lies(pile(0, 2))));
        LightSails eight = strip(8, 85);
        int straight = pile(0, 1, 2, 3, 4, 5, 6, 7);
        check.yes("0 to 7", eight.lies(straight));
        check.no("7 to 0", eight.lies(pile(7, 6, 5, 4, 3, 2, 1, 0)));
        for (int bit = 24; bit < 32; bit++) {
            int told = straight | 1 << bit;
            check.badArgument("0 to 7 and bit " + told, () -> Check.number(eight.lies(told)));
        }
        check.badArgument("7 twice", () -> Check.number(eight.lies(pile(0, 1, 2, 3, 4, 5, 7, 7))));
    }

    @Says({"It LIES, if for each CREASE i:", "and no two CREASES of one side (both i even, or both odd) cross: of the "
        + "LAYERS of their PARTS (two each) one of the second's lies between both of the first, the other one outside."})
    static void p04CreasesOfOneSideCross(Check check) {
        // 0 below 1 below 2, and 3 below 2: crease 0 is 0 and 1, crease 2 is 2 and 3, both even.
        LightSails even = strip(4, 1);
        check.yes("beside each other", even.lies(pile(0, 1, 3, 2)));
        check.yes("one within the other", even.lies(pile(3, 0, 1, 2)));
        check.no("crossing", even.lies(pile(0, 3, 1, 2)));
        check.no("3 above 2", even.lies(pile(0, 1, 2, 3)));
        check.same("two piles", even.strip(4, 1), 2);
        // The same upside down: 0 above 1 above 2, and 3 above 2.
        LightSails falling = strip(4, 6);
        check.yes("beside each other", falling.lies(pile(2, 3, 1, 0)));
        check.yes("one within the other", falling.lies(pile(2, 1, 0, 3)));
        check.no("crossing", falling.lies(pile(2, 1, 3, 0)));
        check.same("two piles", falling.strip(4, 6), 2);
        // 0 below 1 below 2 below 3, and 4 below 3: crease 1 is 1 and 2, crease 3 is 3 and 4, both odd.
        LightSails odd = strip(5, 13);
        check.yes("beside each other", odd.lies(pile(0, 1, 2, 4, 3)));
        check.yes("one within the other", odd.lies(pile(4, 0, 1, 2, 3)));
        check.no("crossing", odd.lies(pile(0, 1, 4, 2, 3)));
    }

    @Says("no two CREASES of one side (both i even, or both odd) cross")
    static void p04CreasesOfBothSidesMayCross(Check check) {
        // Crease 0 (0 and 1, in layers 0 and 2) crosses crease 3 (4 and 3, in layers 1 and 4).
        LightSails x = new LightSails();
        check.same("three piles", x.strip(5, 13), 3);
        check.yes("an even one and an odd one cross", x.lies(pile(0, 4, 1, 2, 3)));
    }

    @Says("IllegalStateException: there is no PILE;")
    static void p05NoPile(Check check) {
        LightSails x = new LightSails();
        for (int crease : new int[] {0, -1, 7, Integer.MIN_VALUE, Integer.MAX_VALUE}) {
            check.badState("clear " + crease, () -> Check.number(x.clear(crease)));
        }
    }

    @Says("IndexOutOfBoundsException: no such CREASE;")
    static void p05NoSuchCrease(Check check) {
        for (int parts = 2; parts <= 8; parts++) {
            LightSails x = strip(parts, 0);
            Ends.ofIndex(check, "crease of " + parts, parts - 1, v -> Check.number(x.clear(v)));
            check.badIndex("crease 32", () -> Check.number(x.clear(32)));
        }
        LightSails y = strip(8, 85);
        y.strip(2, 1);
        check.badIndex("a crease of the strip that was", () -> Check.number(y.clear(1)));
    }

    @Says("IllegalArgumentException: it is OPEN.")
    static void p05OpenCrease(Check check) {
        LightSails x = strip(3, 1);
        x.open(0);
        check.badArgument("crease 0", () -> Check.number(x.clear(0)));
        check.yes("crease 1", x.clear(1));
        check.badIndex("no crease 2", () -> Check.number(x.clear(2)));
        x.open(1);
        check.badArgument("crease 1", () -> Check.number(x.clear(1)));
        x.strip(3, 1);
        check.yes("shut anew", x.clear(0));
    }

    @Says({"Whether a CREASE is CLEAR.", "A SHUT CREASE i is CLEAR, if of the PARTS that HANG with PART i those up to i "
        + "are all above those behind i, or all below (by THE PILE)."})
    static void p05AllAboveOrAllBelow(Check check) {
        check.yes("all below", strip(2, 1).clear(0));
        check.yes("all above", strip(2, 0).clear(0));
        // 0 2 1: part 0 is below 1 and 2; of 0 and 1 one is above 2 and one below.
        LightSails x = strip(3, 3);
        check.yes("crease 0", x.clear(0));
        check.no("crease 1", x.clear(1));
        // 1 0 2: of 1 and 2 one is above 0 and one below; 2 is above 0 and 1.
        LightSails y = strip(3, 0);
        check.no("crease 0", y.clear(0));
        check.yes("crease 1", y.clear(1));
    }

    @Says("HANG together PARTS with SHUT CREASES alone between them.")
    static void p05OnlyWhatHangsTogether(Check check) {
        LightSails x = strip(3, 3);
        check.no("0 hangs with 1", x.clear(1));
        x.open(0);
        check.yes("1 and 2 alone", x.clear(1));
        LightSails y = strip(3, 0);
        check.no("2 hangs with 1", y.clear(0));
        y.open(1);
        check.yes("0 and 1 alone", y.clear(0));
    }

    @Says({"It is opened: 1;", "-1: it is OPEN."})
    static void p06OpenedOnce(Check check) {
        LightSails x = strip(8, 85);
        for (int crease = 0; crease < 7; crease++) {
            check.same("open " + crease, x.open(crease), 1);
            check.same("open creases", x.count(14), crease + 1);
            check.same("again", x.open(crease), -1);
            check.same("open creases", x.count(14), crease + 1);
        }
        check.same("the first again", x.open(0), -1);
    }

    @Says("0, doing nothing: it is not CLEAR;")
    static void p06NotClearStaysShut(Check check) {
        LightSails x = strip(3, 3);
        check.same("open 1", x.open(1), 0);
        check.same("open creases", x.count(14), 0);
        check.same("orders", x.orders(), 1);
        check.no("it is shut", x.clear(1));
        check.same("open 1 again", x.open(1), 0);
    }

    @Says("int open(int crease) throws IllegalStateException, IndexOutOfBoundsException")
    static void p06NoStripNoCrease(Check check) {
        for (int crease : new int[] {0, -1, Integer.MAX_VALUE}) {
            check.badState("open " + crease, () -> new LightSails().open(crease));
        }
        for (int parts = 2; parts <= 8; parts++) {
            int p = parts;
            Ends.ofIndex(check, "crease of " + p, p - 1, v -> strip(p, 0).open(v));
        }
        LightSails x = strip(2, 1);
        check.badIndex("crease 32", () -> x.open(32));
        check.same("none came open", x.count(14), 0);
    }

    @Says("int orders() throws IllegalStateException")
    static void p07NoStrip(Check check) {
        check.badState("orders", () -> new LightSails().orders());
    }

    @Says({"How many SAFE orders there are (1, if all are OPEN).",
        "SAFE is an order of all SHUT CREASES, if each is CLEAR when it is opened in that order."})
    static void p07FewestAndMostOrders(Check check) {
        LightSails x = strip(2, 0);
        check.same("of one crease", x.orders(), 1);
        x.open(0);
        check.same("of none", x.orders(), 1);
        check.same("of one by another", strip(3, 3).orders(), 1);
        check.same("of two at will", strip(3, 1).orders(), 2);
        // A pile that rises all along opens in any order: 7 times 6 times .. 1.
        LightSails y = strip(8, 85);
        int due = 5040;
        for (int shut = 7; shut > 0; shut--) {
            check.same("of " + shut + " at will", y.orders(), due);
            y.open(shut - 1);
            due /= shut;
        }
        check.same("of none", y.orders(), 1);
    }

    @Says("int safe(int k) throws IllegalStateException")
    static void p08NoStrip(Check check) {
        for (int k : new int[] {0, -1, Integer.MIN_VALUE, Integer.MAX_VALUE}) {
            check.badState("safe " + k, () -> new LightSails().safe(k));
        }
    }

    @Says("The k-th CREASE of the first SAFE order (CREASE by CREASE the least); NONE.")
    static void p08FirstAndLastOfTheOrder(Check check) {
        for (int parts = 2; parts <= 8; parts++) {
            LightSails x = strip(parts, 85 & (1 << (parts - 1)) - 1);
            for (int k = 0; k < parts - 1; k++) {
                check.same("safe " + k, x.safe(k), k);
            }
            for (int k : new int[] {-1, parts - 1, 7, Integer.MIN_VALUE, Integer.MAX_VALUE}) {
                check.same("no " + k + " of " + parts, x.safe(k), -1);
            }
        }
    }

    @Says("The k-th CREASE of the first SAFE order (CREASE by CREASE the least); NONE.")
    static void p08OnlyShutCreases(Check check) {
        LightSails x = strip(4, 5);
        x.open(1);
        check.same("safe 0", x.safe(0), 0);
        check.same("safe 1", x.safe(1), 2);
        check.same("safe 2", x.safe(2), -1);
        x.open(0);
        x.open(2);
        check.same("all are open", x.safe(0), -1);
        // 1 0 2: crease 0 is not clear before crease 1.
        LightSails y = strip(3, 0);
        check.same("safe 0", y.safe(0), 1);
        check.same("safe 1", y.safe(1), 0);
    }
}
