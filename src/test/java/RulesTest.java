/** Promises 23 to 26: the tape, rules, their faults, and what they ask for. */
public final class RulesTest {
    private static final Check CHECK = new Check();
    private static final String RULE = "in if 1<2;";

    public static void main(String[] args) {
        testFeed();
        testRulesAndTape();
        testFaults();
        testDepths();
        testManyRules();
        testValues();
        testNames();
        testAsks();
        testEndsAnywhere();
        CHECK.end("RulesTest");
    }

    private static void testFeed() {
        LightSails x = new LightSails();
        for (int i = 1; i <= 15; i++) {
            CHECK.same("feed " + i, x.feed(0x20202020, 0x20202020, 0x20202020, 0x20202020, 0x20202020), 20 * i);
        }
        CHECK.same("one more", x.feed(0, 0, 0, 0, 0), -1);
        CHECK.same("bytes", x.count(9), 300);
        CHECK.same("only blanks", x.rules(300), 0);
        CHECK.same("bytes", x.count(9), 0);
        // The highest byte comes first, and bytes above 127 are bytes.
        x.feed(0x696e2069, 0x6620313c, 0x323bff00, 0x80818283, -1);
        CHECK.same("rules 10", x.rules(10), 1);
        x.feed(0x696e2069, 0x6620313c, 0x323bff00, 0x80818283, -1);
        CHECK.same("rules 11", x.rules(11), -9);
        CHECK.same("at", x.fault(), 10);
        x.feed(0, 0, 0, 0, 0x696e20ff);
        CHECK.same("byte 0", x.rules(20), -9);
        CHECK.same("at", x.fault(), 0);
    }

    private static void testRulesAndTape() {
        LightSails x = new LightSails();
        CHECK.badArgument("rules 1 of no tape", () -> x.rules(1));
        CHECK.badArgument("rules -1", () -> x.rules(-1));
        CHECK.same("rules 0", x.rules(0), 0);
        CHECK.same("two rules", Texts.tell(x, RULE + "out if 2<1;"), 2);
        CHECK.same("rules", x.count(6), 2);
        CHECK.same("a fault", Texts.tell(x, "in if 1<2"), -9);
        CHECK.same("at", x.fault(), 9);
        CHECK.same("the rules stay", x.count(6), 2);
        CHECK.same("they ask", x.asks(), 0);
        CHECK.same("the tape went", x.count(9), 0);
        x.feed(1, 2, 3, 4, 5);
        CHECK.badArgument("rules 21", () -> x.rules(21));
        CHECK.badArgument("rules -1", () -> x.rules(-1));
        CHECK.badArgument("rules least", () -> x.rules(Integer.MIN_VALUE));
        CHECK.same("the tape stays", x.count(9), 20);
        CHECK.same("the fault stays", x.fault(), 9);
        CHECK.same("rules 0", x.rules(0), 0);
        CHECK.same("the tape went", x.count(9), 0);
        CHECK.same("no fault", x.fault(), -1);
        CHECK.same("no rules", x.count(6), 0);
        CHECK.same("nothing asked", x.asks(), -9);
    }

    private static void fault(String text, int kind, int place) {
        LightSails x = new LightSails();
        CHECK.same(text, Texts.tell(x, text), kind - 10);
        CHECK.same("place: " + text, x.fault(), place);
        CHECK.same("no rules: " + text, x.count(6), 0);
    }

    private static void good(String text, int rules) {
        LightSails x = new LightSails();
        CHECK.same(text, Texts.tell(x, text), rules);
        CHECK.same("no fault: " + text, x.fault(), -1);
        CHECK.same("rules: " + text, x.count(6), rules);
    }

    private static void testFaults() {
        fault("up if 1<2;", 1, 0);
        fault("  inn if 1<2;", 1, 2);
        fault("In if 1<2;", 1, 0);
        fault(";", 1, 0);
        fault("in", 1, 2);
        fault("in  ", 1, 4);
        fault("in 1<2;", 1, 3);
        fault("inif 1<2;", 1, 0);
        fault("in if", 1, 5);
        fault("in if ;", 1, 6);
        fault("in if 1;", 1, 7);
        fault("in if 1<;", 1, 8);
        fault("in if 1<2", 1, 9);
        fault("in if 1<2  ", 1, 11);
        fault("in if 1<=2;", 1, 8);
        fault("in if 1<2<3;", 1, 9);
        fault("in if 1<2 3;", 1, 10);
        fault("in if 1<2 rho;", 1, 10);
        fault("in if -1<2;", 1, 6);
        fault("in if 1+<2;", 1, 8);
        fault("in if (1<2);", 1, 8);
        fault("in if [1]<2;", 1, 8);
        fault("in if [1<2;", 1, 10);
        fault("in if 1<2];", 1, 9);
        fault("in if (1;", 1, 8);
        fault("in if (1", 1, 8);
        fault("in if 1)<2;", 1, 7);
        fault("in if least 1;", 1, 12);
        fault("in if least(1);", 1, 13);
        fault("in if most(1,2,3)<4;", 1, 14);
        fault("in if least<1;", 1, 11);
        fault("in if leastmost(1,2)<1;", 1, 6);
        fault("in if rhoo<1;", 1, 6);
        fault("in if rh<1;", 1, 6);
        fault("in if angles<1;", 1, 6);
        fault("in if not;", 1, 9);
        fault("in if not [not 1<2;", 1, 18);
        fault("in if 1<2 and;", 1, 13);
        fault("in if 1<2 or or 1<2;", 1, 13);
        fault("in if 1<2 not 1<2;", 1, 10);
        fault("in if 1<2;;", 1, 10);
        fault("in if 1<2; x", 1, 11);
        fault("in if 1\t<2;", 1, 7);
        fault("in if 10000<1;", 2, 6);
        fault("in if 1< 123456789012345678901234567890;", 2, 9);
        fault("in if 1 10000<1;", 1, 8);
        fault("in if 4294967297<1;", 2, 6);
        good("in if 9999<1;", 1);
        good("in if 0000000000000009999=9999;", 1);
        good("in if 00001000=1;", 1);
        fault("in if 00010000=1;", 2, 6);
        good("", 0);
        good("   ", 0);
        good("in if1<2;keep if1<2;out if1<2;", 3);
        good("  in  if  [  1  <  2  ]  ;  ", 1);
        good("in if 1<2and 1<2or 1<2;", 1);
        good("in if least ( 1 , 2 ) < most(1,2) * rho / angle - day + far - lead * steps / torn;", 1);
    }

    private static void testDepths() {
        good("in if ((((((1))))))<2;", 1);
        fault("in if (((((((1)))))))<2;", 3, 12);
        good("in if [[[[[[1<2]]]]]];", 1);
        fault("in if [[[[[[[1<2]]]]]]];", 3, 12);
        good("in if not not not not not not 1<2;", 1);
        fault("in if not not not not not not not 1<2;", 3, 30);
        good("in if not not not not not not 1<2 and not 1<2 or (1)<2;", 1);
        fault("in if not not not not not not (1)<2;", 3, 30);
        fault("in if not not not not not not 1<(2);", 3, 32);
        fault("in if not not not not not not [1<2];", 3, 30);
        fault("in if not [not [not [(1)<2]]];", 3, 21);
        fault("in if not [not [(1)<2 and not 1<2]] and [[[[[[(1)<2]]]]]];", 3, 46);
        good("in if least(least(least(least(least(least(1,2),3),4),5),6),7)<2;", 1);
        fault("in if least(least(least(least(least(least(1,(2)),3),4),5),6),7)<2;", 3, 44);
        fault("in if most(1,(((((((1)))))))<2;", 3, 18);
        fault("in if ((((((1 (", 1, 14);
        fault("in if [[[[[[1 [", 1, 14);
        fault("in if ((((((not", 1, 12);
        good("in if (1)+(1)+(1)+(1)+(1)+(1)+(1)+(1)<2;", 1);
        good("in if [1<2] and [1<2] and [1<2] and [1<2] and [1<2] and [1<2] and [1<2];", 1);
    }

    private static void testManyRules() {
        good(RULE.repeat(16), 16);
        good(RULE.repeat(16) + "   ", 16);
        fault(RULE.repeat(17), 3, 160);
        fault(RULE.repeat(16) + "  in", 3, 162);
        fault(RULE.repeat(16) + "  inn", 1, 162);
        fault(RULE.repeat(16) + " ;", 1, 161);
        fault(RULE.repeat(18), 3, 160);
        good("in if 1<" + "2+".repeat(145) + "2;", 1);
    }

    private static void holds(String condition, boolean due) {
        LightSails x = new LightSails();
        Texts.tell(x, "out if " + condition + ";");
        CHECK.same("no fault: " + condition, x.fault(), -1);
        CHECK.same(condition, x.asks(), due ? 2 : -9);
    }

    private static void testValues() {
        holds("1<2", true);
        holds("2<2", false);
        holds("2>1", true);
        holds("2>2", false);
        holds("2=2", true);
        holds("2=3", false);
        holds("7-3-2=2", true);
        holds("2+3*4=14", true);
        holds("(2+3)*4=20", true);
        holds("100/7/2=7", true);
        holds("7/2*2=6", true);
        holds("(0-7)/2=0-3", true);
        holds("5/0=0", true);
        holds("5/(3-3)+1=1", true);
        holds("least(3,4)=3 and most(3,4)=4 and least(4,3)=3 and most(4,3)=4", true);
        holds("least(0-1,1)=0-1", true);
        holds("1=1 or 1=2 and 1=2", true);
        holds("[1=1 or 1=2] and 1=2", false);
        holds("not 1=2 and 1=2", false);
        holds("not [1=2 and 1=2]", true);
        holds("not not 1=1", true);
        holds("1=2 or 1=2", false);
        holds("1=2 or 1=1", true);
        // As deep as it goes: every sum, product and pair is begun when the innermost is worked.
        holds("1=2 or 1=1 and 8=" + "1+1*most(1,".repeat(6) + "1+1*1" + ")".repeat(6), true);
        holds("not [not [1=2 or 1=1 and 6=" + "1+1*most(1,".repeat(2) + "1+1*1+2" + ")".repeat(2) + "]]", true);
        // 9,999 five times over wraps in 32 bits: 9999 ^ 3 is 999,700,029,999.
        holds("9999*9999*9999=" + wrapped(), true);
        holds("9999*9999*22>0", false);
        holds("(0-8192)*8192*32/(0-1)<0", true);
        holds("(0-8192)*8192*32=8192*8192*32", true);
        holds("(0-8192)*8192*32-1>0", true);
    }

    /** A sum with that value, from numbers below 10,000. */
    private static String wrapped() {
        int value = 9999 * 9999 * 9999;
        boolean isMinus = value < 0;
        long amount = Math.abs((long) value);
        String text = amount / 100_000_000 + "*9999*9999";
        long rest = amount - amount / 100_000_000 * 9999 * 9999;
        text = text + "+" + rest / 9999 / 9999 + "*9999*9999+" + rest / 9999 % 9999 + "*9999+" + rest % 9999;
        return isMinus ? "0-(" + text + ")" : text;
    }

    private static void testNames() {
        LightSails x = new LightSails();
        for (int i = 0; i < 3; i++) {
            x.panel(0, 0, 400, 100, 0);
        }
        x.tear(1);
        x.world(90, 5, 3);
        x.fly(7);
        String now = "rho=100 and angle=21 and day=7 and steps=2 and torn=1";
        tells(x, now + " and far=0 and lead=0");
        x.goal(0);
        tells(x, now + " and far=0-10 and lead=5");
        x.goal(-1);
        tells(x, now + " and far=0 and lead=0");
        x.world(200, 0, 0);
        x.goal(1);
        tells(x, now + " and far=100 and lead=51");
    }

    private static void tells(LightSails x, String condition) {
        CHECK.same("rules " + condition, Texts.tell(x, "keep if " + condition + ";"), 1);
        CHECK.same("asks " + condition, x.asks(), 1);
    }

    private static void testAsks() {
        LightSails x = new LightSails();
        Texts.tell(x, "in if 1=2;keep if 1=2;out if 1=1;in if 1=1;");
        CHECK.same("the first that holds", x.asks(), 22);
        Texts.tell(x, "in if 1=2;".repeat(15) + "keep if 1=1;");
        CHECK.same("the 16th", x.asks(), 151);
        Texts.tell(x, "in if 1=1;");
        CHECK.same("in", x.asks(), 0);
        Texts.tell(x, "out if 1=1;");
        CHECK.same("out", x.asks(), 2);
        Texts.tell(x, "in if 1=2;");
        CHECK.same("none", x.asks(), -9);
    }

    /** Cut anywhere, a text that needs all its bytes has its fault at the cut, or at the word that was cut. */
    private static void testEndsAnywhere() {
        String text = "keep if not [rho+(angle*2)<most(day,7) or 12=lead/3] and far>0;";
        good(text, 1);
        for (int n = 1; n < text.length(); n++) {
            LightSails x = new LightSails();
            Model m = new Model();
            for (int i = 0; i < text.length(); i += 20) {
                int[] f = Texts.five(text, i);
                x.feed(f[0], f[1], f[2], f[3], f[4]);
                m.feed(f[0], f[1], f[2], f[3], f[4]);
            }
            CHECK.same("cut at " + n, x.rules(n), -9);
            CHECK.same("cut at " + n, m.rules(n), -9);
            CHECK.same("place " + n, x.fault(), m.fault());
        }
    }
}
