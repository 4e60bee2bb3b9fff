/** Promises 1 and 47: a new object, and what count tells of it. */
public final class NewObjectTest {
    public static void main(String[] args) {
        Check check = new Check();
        LightSails x = new LightSails();
        int[] due = {0, 100, 0, 0, 0, 0, 0, 0, 1, 0, 0, 0, 0, 0, 0, 0, 0, 0};
        for (int what = 0; what < due.length; what++) {
            check.same("count " + what, x.count(what), due[what]);
        }
        check.same("count -1", x.count(-1), -1);
        check.same("count 18", x.count(18), -1);
        check.same("NONE", LightSails.NONE, -1);
        check.same("layer", x.layer(0), -1);
        check.badState("clear without a strip", () -> Check.number(x.clear(-5)));
        check.badState("open without a strip", () -> x.open(-5));
        check.badState("safe without a strip", () -> x.safe(-5));
        check.same("goal", x.goal(-1), -1);
        check.same("asks", x.asks(), -9);
        check.same("fault", x.fault(), -1);
        check.end("NewObjectTest");
    }
}
