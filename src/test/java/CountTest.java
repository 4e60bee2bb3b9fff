/** Promise 47: count, after something of everything has come. */
public final class CountTest {
    public static void main(String[] args) {
        Check check = new Check();
        LightSails x = new LightSails();
        for (int i = 0; i < 3; i++) {
            x.panel(0, 0, 500, 100, 0);
        }
        x.flap(0);
        x.flap(1);
        x.world(100, 12, 0);
        Texts.tell(x, "keep if 1=1;keep if 1=1;out if 1=1;in if 1=1;");
        x.feed(0, 0, 0, 0, 0);
        x.goal(0);
        x.fly(4);
        for (int i = 0; i < 5; i++) {
            x.coat(1, 1);
        }
        for (int i = 0; i < 6; i++) {
            x.sight(0, 0, 0);
        }
        for (int i = 0; i < 7; i++) {
            x.dust(0, 100);
        }
        x.strip(8, 85);
        for (int i = 0; i < 7; i++) {
            x.open(i);
        }
        for (int i = 0; i < 5; i++) {
            x.knot(i, 0, true);
        }
        for (int i = 0; i < 3; i++) {
            x.string(i, i + 1);
        }
        for (int i = 0; i < 9; i++) {
            x.offer(0, 0, 0, 0);
        }
        // Three panels of 500 push by 433 each: 1299 by 100.
        int[] due = {4, 100, 12, 3, 2, 1, 4, 12, 1 + 12 * 32 / 132, 20, 1, 5, 6, 7, 7, 5, 3, 9};
        for (int what = 0; what < due.length; what++) {
            check.same("count " + what, x.count(what), due[what]);
        }
        int[] others = {-1, 18, 19, Integer.MIN_VALUE, Integer.MAX_VALUE};
        for (int what : others) {
            check.same("count " + what, x.count(what), -1);
        }
        check.end("CountTest");
    }
}
