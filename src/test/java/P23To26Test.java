/** Promises 23 to 26, sentence by sentence: the tape, the rules and their faults, what they ask for. */
public final class P23To26Test {
    private static final String RULE = "in if 1<2;";
    private static final int BLANKS = 0x20202020;

    public static void main(String[] args) throws IllegalAccessException {
        Sentences.run(P23To26Test.class);
    }

    private static int feed(LightSails x, String text) {
        int[] f = Texts.five(text, 0);
        return x.feed(f[0], f[1], f[2], f[3], f[4]);
    }

    private static void good(Check check, String text, int rules) {
        LightSails x = new LightSails();
        check.same(text, Texts.tell(x, text), rules);
        check.same("no fault: " + text, x.fault(), -1);
        check.same("rules: " + text, x.count(6), rules);
    }

    private static void fault(Check check, String text, int kind, int place) {
        LightSails x = new LightSails();
        Texts.tell(x, "out if 1=1;");
        check.same(text, Texts.tell(x, text), kind - 10);
        check.same("place: " + text, x.fault(), place);
        check.same("the rule stays: " + text, x.asks(), 2);
        check.same("the tape went: " + text, x.count(9), 0);
    }

    private static void asks(Check check, LightSails x, String condition, boolean due) {
        Texts.tell(x, "out if " + condition + ";");
        check.same("no fault: " + condition, x.fault(), -1);
        check.same(condition, x.asks(), due ? 2 : -9);
    }

    private static void holds(Check check, String condition) {
        asks(check, new LightSails(), condition, true);
    }

    private static void fails(Check check, String condition) {
        asks(check, new LightSails(), condition, false);
    }

    @Says({"Twenty bytes come on the TAPE, of each number the highest first: how many there are;",
        "NONE, doing nothing, if there would be more than 300."})
    static void p23ThreeHundredBytes(Check check) {
        LightSails x = new LightSails();
        check.same("none at first", x.count(9), 0);
        check.same("feed", feed(x, RULE + " ".repeat(10)), 20);
        for (int i = 2; i <= 15; i++) {
            check.same("feed", x.feed(BLANKS, BLANKS, BLANKS, BLANKS, BLANKS), 20 * i);
            check.same("bytes", x.count(9), 20 * i);
        }
        // Byte 0 can't stand anywhere, so a fault would tell that the tape changed.
        for (int i = 0; i < 3; i++) {
            check.same("more than 300", x.feed(0, 0, 0, 0, 0), -1);
            check.same("bytes", x.count(9), 300);
        }
        check.same("the tape is as it was", x.rules(300), 1);
        check.same("there is room again", feed(x, RULE), 20);
    }

    @Says("Twenty bytes come on the TAPE, of each number the highest first: how many there are;")
    static void p23HighestByteFirst(Check check) {
        LightSails x = new LightSails();
        check.same("feed", x.feed(0x696e2069, 0x6620313c, 0x323b6f75, 0x74206966, 0x20313b20), 20);
        check.same("in if 1<2;", x.rules(10), 1);
        // The sign's bit is a byte's bit like another: each byte is 0 to 255.
        int[] bytes = {0x80, 0x81, 0xa0, 0xe9, 0xff, 0x7f, 0x00, 0x1f, 0x21};
        for (int b : bytes) {
            LightSails y = new LightSails();
            y.feed(b << 24 | 0x202020, BLANKS, BLANKS, BLANKS, BLANKS);
            check.same("byte " + b, y.rules(20), -9);
            check.same("byte " + b, y.fault(), 0);
            y.feed(BLANKS, BLANKS, BLANKS, BLANKS, 0x20202000 | b);
            check.same("byte " + b, y.rules(20), -9);
            check.same("byte " + b, y.fault(), 19);
        }
        check.same("-1 is four bytes of 255", x.feed(-1, -1, -1, -1, -1), 20);
        check.same("at 0", x.rules(1), -9);
    }

    @Says({"The first n bytes of the TAPE (empty then) are the RULES: how many;",
        "IllegalArgumentException: n is not 0 to the TAPE's bytes (it stays)."})
    static void p24FromNoneToAllBytes(Check check) {
        LightSails none = new LightSails();
        check.badArgument("1 of none", () -> none.rules(1));
        check.badArgument("-1 of none", () -> none.rules(-1));
        check.same("0 of none", none.rules(0), 0);
        LightSails x = new LightSails();
        feed(x, RULE + RULE);
        for (int n : new int[] {-1, 21, 300, Integer.MIN_VALUE, Integer.MAX_VALUE}) {
            check.badArgument("rules " + n, () -> x.rules(n));
            check.same("the tape stays", x.count(9), 20);
        }
        check.same("no rules came", x.count(6), 0);
        check.same("all of it", x.rules(20), 2);
        check.same("empty then", x.count(9), 0);
        check.badArgument("nothing is left", () -> x.rules(1));
        feed(x, RULE + RULE);
        check.same("one of two", x.rules(10), 1);
        check.same("empty then, too", x.count(9), 0);
        feed(x, RULE);
        check.same("none of it", x.rules(0), 0);
        check.same("empty then, too", x.count(9), 0);
    }

    @Says("IllegalArgumentException: n is not 0 to the TAPE's bytes (it stays).")
    static void p24RefusedRulesChangeNothing(Check check) {
        LightSails x = new LightSails();
        Texts.tell(x, "out if 1=1;");
        Texts.tell(x, "in if");
        feed(x, RULE);
        check.badArgument("rules 21", () -> x.rules(21));
        check.same("the fault stays", x.fault(), 5);
        check.same("the rules stay", x.asks(), 2);
        check.same("the tape stays", x.count(9), 20);
        check.same("as it was", x.rules(10), 1);
    }

    @Says({"RULES are a text of up to 300 bytes: { RULE \";\" };",
        "The first n bytes of the TAPE (empty then) are the RULES: how many;"})
    static void p24EmptyAndLongestText(Check check) {
        good(check, "", 0);
        good(check, " ", 0);
        good(check, " ".repeat(300), 0);
        String longest = "in if 1<" + "2+".repeat(145) + "2;";
        check.same("bytes", longest.length(), 300);
        good(check, longest, 1);
        good(check, RULE + " ".repeat(290), 1);
        fault(check, longest.substring(0, 299) + "+", 1, 300);
        LightSails x = new LightSails();
        Texts.tell(x, RULE);
        check.same("no rules come in their stead", x.rules(0), 0);
        check.same("rules", x.count(6), 0);
        check.same("asks", x.asks(), -9);
    }

    @Says("or the FAULT less 10 (the RULES stay).")
    static void p24FaultLessTen(Check check) {
        String[] wrong = {"in", "in if 10000<1;", RULE.repeat(17)};
        LightSails x = new LightSails();
        check.same("two rules", Texts.tell(x, "in if 1=2;out if 1=1;"), 2);
        for (int i = 0; i < 3; i++) {
            check.same("fault " + (i + 1), Texts.tell(x, wrong[i]), i - 9);
            check.same("the rules stay", x.count(6), 2);
            check.same("they ask as before", x.asks(), 12);
            check.same("the tape is empty", x.count(9), 0);
        }
        x.fly(1);
        check.same("they steer as before", x.count(1), 101);
    }

    @Says("The place of the FAULT of the latest rules(); NONE without.")
    static void p25LatestFault(Check check) {
        LightSails x = new LightSails();
        check.same("none at first", x.fault(), -1);
        check.same("fault 1", Texts.tell(x, "up if 1<2;"), -9);
        check.same("at 0", x.fault(), 0);
        check.same("asked again", x.fault(), 0);
        check.same("fault 2", Texts.tell(x, "in if 10000<2;"), -8);
        check.same("at 6", x.fault(), 6);
        check.same("fault 3", Texts.tell(x, RULE.repeat(17)), -7);
        check.same("at 160", x.fault(), 160);
        feed(x, RULE);
        check.same("feed does not matter", x.fault(), 160);
        check.same("a good one", x.rules(10), 1);
        check.same("none", x.fault(), -1);
        Texts.tell(x, "in");
        check.same("at 2", x.fault(), 2);
        check.same("no bytes are good", x.rules(0), 0);
        check.same("none", x.fault(), -1);
    }

    @Says({"FAULTS, the first from the left, at its first byte:", "1 what can't stand there"})
    static void p25FirstFromTheLeft(Check check) {
        fault(check, "up if 10000<1;", 1, 0);
        fault(check, "in if 10000<1; up", 2, 6);
        fault(check, "in if 1<2; up if 10000", 1, 11);
        fault(check, "in if (((((((10000", 3, 12);
        fault(check, "in if 10000<(((((((1", 2, 6);
        fault(check, "   in   if   ;", 1, 13);
        fault(check, "in if 1 < 2 ) ;", 1, 12);
    }

    @Says("(at the length, if the text ends too early);")
    static void p25TextEndsTooEarly(Check check) {
        String text = "in if not [ ( 1 ) < least ( 2 , 3 ) ] and 1 = 2 or 3 > 4 ;";
        good(check, text, 1);
        for (int n = 1; n < text.length(); n++) {
            boolean cutsWord = Character.isLetter(text.charAt(n - 1)) && Character.isLetter(text.charAt(n));
            if (!cutsWord) {
                fault(check, text.substring(0, n), 1, n);
            }
        }
        fault(check, "in if 1<2   ", 1, 12);
        // The length is that of the rules' text, though the tape has more.
        LightSails x = new LightSails();
        feed(x, RULE);
        check.same("nine bytes", x.rules(9), -9);
        check.same("at the length", x.fault(), 9);
    }

    @Says({"2 an N above 9,999;", "U: N (digits, as many as stand there, 0 to 9,999);"})
    static void p25GreatestNumber(Check check) {
        good(check, "in if 0<9999;", 1);
        fault(check, "in if 0<10000;", 2, 8);
        good(check, "in if " + "0".repeat(280) + "9999<1;", 1);
        good(check, "in if " + "0".repeat(280) + "<1;", 1);
        fault(check, "in if " + "0".repeat(280) + "10000<1;", 2, 6);
        fault(check, "in if " + "9".repeat(290) + "<1;", 2, 6);
        // What would wrap to a small number.
        fault(check, "in if 65536<1;", 2, 6);
        fault(check, "in if 2147483648<1;", 2, 6);
        fault(check, "in if 4294967296<1;", 2, 6);
        fault(check, "in if 4294967297<1;", 2, 6);
        fault(check, "in if 18446744073709551617<1;", 2, 6);
        fault(check, "in if 1<2 and 1<10000", 2, 16);
        // Nothing ends a number but another sign: these are two numbers.
        fault(check, "in if 99 99<1;", 1, 9);
        fault(check, "in if -1<1;", 1, 6);
    }

    @Says({"3 a 17th RULE,", "At most 16 RULES."})
    static void p25SixteenRules(Check check) {
        good(check, RULE.repeat(16), 16);
        good(check, RULE.repeat(16) + "   ", 16);
        fault(check, RULE.repeat(17), 3, 160);
        fault(check, RULE.repeat(16) + "  out if 1<2;", 3, 162);
        fault(check, RULE.repeat(16) + "keep", 3, 160);
        fault(check, RULE.repeat(15) + "out if 1<" + RULE, 1, 159);
    }

    @Says("or a 7th of ( [ and not that is open at one time (a not till its B ends);")
    static void p25SixOpenAtOneTime(Check check) {
        String nots = "not ".repeat(6);
        good(check, "in if ((((((1))))))<2;", 1);
        fault(check, "in if (((((((1)))))))<2;", 3, 12);
        good(check, "in if [[[[[[1<2]]]]]];", 1);
        fault(check, "in if [[[[[[[1<2]]]]]]];", 3, 12);
        good(check, "in if " + nots + "1<2;", 1);
        fault(check, "in if " + nots + "not 1<2;", 3, 30);
        good(check, "in if not[not[not[1<2]]];", 1);
        fault(check, "in if not[not[not[(1)<2]]];", 3, 18);
        fault(check, "in if not[not[not[not 1<2]]];", 3, 18);
        // A not is open till its B ends: at both sides of the sign.
        fault(check, "in if " + nots + "(1)<2;", 3, 30);
        fault(check, "in if " + nots + "1<(2);", 3, 32);
        good(check, "in if " + nots + "1<2 and (1)<2;", 1);
        good(check, "in if " + nots + "1<2 or " + nots + "1<2;", 1);
        good(check, "in if [[[[[not 1<2 and not 1<2]]]]];", 1);
        good(check, "in if (1)+(1)+(1)+(1)+(1)+(1)+(1)<(1);", 1);
        good(check, "in if [1<2]and[1<2]and[1<2]and[1<2]and[1<2]and[1<2]and[1<2];", 1);
        good(check, "in if ((((((1))))))<((((((2))))));" + "in if ((((((1))))))<2;", 2);
        // A text with a fault leaves nothing open for the next one.
        LightSails x = new LightSails();
        for (int i = 0; i < 3; i++) {
            check.same("a 7th", Texts.tell(x, "in if [[[(((((1"), -7);
            check.same("at", x.fault(), 12);
            check.same("five are left open", Texts.tell(x, "in if [[[((1"), -9);
            check.same("six", Texts.tell(x, "in if [[[(((1)))<2]]];"), 1);
        }
    }

    @Says({"or a 7th of ( [ and not that is open at one time", "\"least\" or \"most\" \"(\" E \",\" E \")\"."})
    static void p25BracketOfLeastIsOneOfThem(Check check) {
        good(check, "in if " + "least(1,".repeat(6) + "2" + ")".repeat(6) + "<3;", 1);
        fault(check, "in if " + "most(1,".repeat(7) + "2" + ")".repeat(7) + "<3;", 3, 6 + 6 * 7 + 4);
        fault(check, "in if ((((((least(1,2)))))))<3;", 3, 17);
        good(check, "in if (((((least(1,2))))))<3;", 1);
        good(check, "in if " + "least(1,2)+".repeat(8) + "1<3;", 1);
    }

    @Says("of one the least.")
    static void p25LeastOfOnePlace(Check check) {
        // A 17th thing that is no rule can't stand there; nor can a 7th bracket or a great number.
        fault(check, RULE.repeat(16) + "up if 1<2;", 1, 160);
        fault(check, RULE.repeat(16) + ";", 1, 160);
        fault(check, RULE.repeat(16) + "10000", 1, 160);
        fault(check, "in if ((((((1(", 1, 13);
        fault(check, "in if ((((((1[", 1, 13);
        fault(check, "in if ((((((not 1", 1, 12);
        fault(check, "in if [[[[[[1<2 not", 1, 16);
        fault(check, "in if ((((((least 1", 1, 18);
        fault(check, "in if 1 10000<1;", 1, 8);
        fault(check, "10000", 1, 0);
    }

    @Says({"RULE: STEER \"if\" C; STEER: \"in\", \"keep\", \"out\".", "WORDS: small letters, as many as stand there;",
        "\"rho\", \"angle\", \"day\", \"far\", \"lead\", \"steps\", \"torn\""})
    static void p25WordsAreWhole(Check check) {
        for (String steer : new String[] {"in", "keep", "out"}) {
            good(check, steer + " if 1<2;", 1);
            fault(check, steer + "if 1<2;", 1, 0);
            fault(check, steer + "x if 1<2;", 1, 0);
            fault(check, steer.substring(1) + " if 1<2;", 1, 0);
            fault(check, steer.toUpperCase() + " if 1<2;", 1, 0);
            fault(check, steer + " iff 1<2;", 1, steer.length() + 1);
        }
        for (String name : new String[] {"rho", "angle", "day", "far", "lead", "steps", "torn"}) {
            good(check, "in if " + name + "=" + name + ";", 1);
            fault(check, "in if " + name + "s=1;", 1, 6);
            fault(check, "in if " + name.substring(0, name.length() - 1) + "=1;", 1, 6);
            fault(check, "in if 1" + name + "=1;", 1, 7);
        }
        for (String wrong : new String[] {"if", "or", "and", "not", "rho", "torn", "least", "most"}) {
            fault(check, wrong + " if 1<2;", 1, 0);
        }
        for (String letter : new String[] {"a", "z"}) {
            fault(check, "in" + letter + " if 1<2;", 1, 0);
            fault(check, letter + "in if 1<2;", 1, 0);
            fault(check, "in if rho" + letter + "<2;", 1, 6);
            fault(check, "in if 1<2 and" + letter + " 1<2;", 1, 10);
        }
        good(check, "in if1<2and 1<2or 1<2;", 1);
        fault(check, "in if 1<2andnot 1<2;", 1, 9);
        fault(check, "in if rho`<1;", 1, 9);
        fault(check, "in if rho{<1;", 1, 9);
        fault(check, "in if 1:<1;", 1, 7);
    }

    @Says("blanks (32) may stand ahead of all these, and at the end.")
    static void p25OnlyBlanksBetween(Check check) {
        good(check, "  in  if  [  not  (  1  +  2  )  *  3  <  least  (  4  ,  5  )  ]  ;  ", 1);
        good(check, "in if[not(1+2)*3<least(4,5)];", 1);
        for (char other : new char[] {9, 10, 13, 0, 31, 33, 127, 160, 255}) {
            fault(check, RULE + other, 1, 10);
            fault(check, other + RULE, 1, 0);
            fault(check, "in" + other + "if 1<2;", 1, 2);
        }
    }

    @Says({"C: A { \"or\" A }. A: B { \"and\" B }. B: \"not\" B, \"[\" C \"]\", or E R E; R: <, > or =. E: T { + or - T }. "
        + "T: U { * or / U }.", "\"(\" E \")\";"})
    static void p25WhatMayFollow(Check check) {
        fault(check, "in 1<2;", 1, 3);
        fault(check, "in if ;", 1, 6);
        fault(check, "in if 1;", 1, 7);
        fault(check, "in if 1<;", 1, 8);
        fault(check, "in if 1<2 or;", 1, 12);
        fault(check, "in if 1<2 and or 1<2;", 1, 14);
        fault(check, "in if not;", 1, 9);
        fault(check, "in if [];", 1, 7);
        fault(check, "in if ()<1;", 1, 7);
        fault(check, "in if (1<2);", 1, 8);
        fault(check, "in if [1]<2;", 1, 8);
        fault(check, "in if [1<2)", 1, 10);
        fault(check, "in if (1]<2;", 1, 8);
        fault(check, "in if 1+*2<3;", 1, 8);
        fault(check, "in if 1<2<3;", 1, 9);
        fault(check, "in if 1<2,3;", 1, 9);
        fault(check, "in if least(1)<2;", 1, 13);
        fault(check, "in if least(1,2,3)<2;", 1, 15);
        fault(check, "in if least(,2)<2;", 1, 12);
        fault(check, "in if least 1<2;", 1, 12);
        fault(check, "in if least<2;", 1, 11);
        fault(check, "in if 1<most;", 1, 12);
        fault(check, ";", 1, 0);
        fault(check, RULE + ";", 1, 10);
    }

    @Says({"What the RULES tell now: 10 times the RULE (from 0 on), and its STEER;", "-9: none holds."})
    static void p26FirstToLastRule(Check check) {
        LightSails x = new LightSails();
        check.same("no rules", x.asks(), -9);
        String[] steers = {"in", "keep", "out"};
        for (int steer = 0; steer < 3; steer++) {
            Texts.tell(x, steers[steer] + " if 1=1;");
            check.same("the first", x.asks(), steer);
            Texts.tell(x, "in if 1=2;".repeat(15) + steers[steer] + " if 1=1;");
            check.same("the 16th", x.asks(), 150 + steer);
        }
        Texts.tell(x, "in if 1=2;".repeat(16));
        check.same("none of 16", x.asks(), -9);
        Texts.tell(x, "in if 1=2;out if 1=1;keep if 1=1;");
        check.same("the first that holds", x.asks(), 12);
        check.same("asking flies nothing", x.count(0), 0);
    }

    @Says("VALUES are whole numbers of 32 bits that wrap;")
    static void p26ValuesWrap(Check check) {
        // 8192 * 8192 * 32 is 2 to the 31st, which wraps to the least; one less is the greatest.
        holds(check, "8192*8192*32<0");
        holds(check, "8192*8192*32=0-8192*8192*32");
        holds(check, "8192*8192*32-1>0");
        holds(check, "8192*8192*32-1+1<0");
        holds(check, "8192*8192*64=0");
        holds(check, "8192*8192*64+7=7");
        holds(check, "8192*8192*32/(0-1)=8192*8192*32");
        // 999,700,029,999 less 233 times 2 to the 32nd is -1,027,349,969.
        holds(check, "9999*9999*9999=0-(9999*9999*10+2755*9999+2714)");
        // Comparing does not take the difference, which would wrap.
        fails(check, "8192*8192*32>8192*8192*32-1");
        holds(check, "least(8192*8192*32,1)=8192*8192*32");
        holds(check, "most(8192*8192*32,1)=1");
    }

    @Says("/ cuts, by 0 it is 0;")
    static void p26DividingCuts(Check check) {
        holds(check, "7/2=3");
        holds(check, "(0-7)/2=0-3");
        holds(check, "7/(0-2)=0-3");
        holds(check, "(0-7)/(0-2)=3");
        holds(check, "1/2=0");
        holds(check, "0/5=0");
        holds(check, "5/0=0");
        holds(check, "0/0=0");
        holds(check, "(0-5)/0=0");
        holds(check, "5/(1-1)+3=3");
        holds(check, "7/2*2=6");
        holds(check, "5/0*9=0");
    }

    @Says("or, and: both sides are worked.")
    static void p26BothSides(Check check) {
        holds(check, "1=1 or 1/0=5");
        fails(check, "1=2 and 1/0=0");
        holds(check, "1=2 or 1/0=0");
        holds(check, "1=1 or 1=2 and 1=2");
        fails(check, "[1=1 or 1=2] and 1=2");
        holds(check, "not 1=2 and 1=1");
        fails(check, "not [1=2 or 1=1]");
        holds(check, "not 1=2");
        fails(check, "not 1=1");
        holds(check, "not not 1=1");
        fails(check, "not not 1=2");
        holds(check, "not not not not not not 1=1");
    }

    @Says({"R: <, > or =.", "\"least\" or \"most\""})
    static void p26Equals(Check check) {
        fails(check, "2<2");
        fails(check, "2>2");
        holds(check, "2=2");
        holds(check, "1<2");
        holds(check, "2>1");
        fails(check, "1=2");
        holds(check, "least(2,2)=2 and most(2,2)=2");
        holds(check, "least(1,2)=1 and least(2,1)=1 and most(1,2)=2 and most(2,1)=2");
        holds(check, "7-3-2=2");
        holds(check, "2+3*4=14");
    }

    @Says("far: RHO of the GOAL (a WORLD; NONE at first: 0) less RHO;")
    static void p26Far(Check check) {
        LightSails x = new LightSails();
        asks(check, x, "far=0", true);
        x.world(255, 0, 0);
        x.world(0, 0, 0);
        x.world(100, 0, 0);
        asks(check, x, "far=0", true);
        x.goal(0);
        asks(check, x, "far=155", true);
        x.goal(1);
        asks(check, x, "far=0-100", true);
        x.goal(2);
        asks(check, x, "far=0", true);
        x.goal(-1);
        asks(check, x, "far=0", true);
    }

    @Says("lead: ANGLE of the GOAL today less ANGLE, by 72 what is left (0 to 71; without GOAL 0);")
    static void p26Lead(Check check) {
        LightSails x = new LightSails();
        asks(check, x, "lead=0", true);
        x.world(100, 71, 0);
        x.world(100, 2, 0);
        x.world(100, 3, 7);
        x.goal(0);
        asks(check, x, "lead=71", true);
        x.goal(-1);
        asks(check, x, "lead=0", true);
        x.fly(1);
        asks(check, x, "lead=0", true);
        x.goal(1);
        asks(check, x, "lead=71", true);
        // Today: 3 and 7 less 3.
        x.goal(2);
        asks(check, x, "lead=7", true);
        LightSails y = new LightSails();
        y.world(100, 3, 0);
        y.goal(0);
        y.fly(1);
        asks(check, y, "lead=0", true);
    }

    @Says("torn: how many PANELS are; day: the DAY.")
    static void p26TornAndDay(Check check) {
        LightSails x = new LightSails();
        asks(check, x, "torn=0 and day=0", true);
        for (int i = 0; i < 16; i++) {
            x.panel(0, 0, 1, 0, 0);
        }
        asks(check, x, "torn=0", true);
        for (int i = 0; i < 16; i++) {
            x.tear(i);
            x.tear(i);
            asks(check, x, "torn=" + (i + 1), true);
        }
        x.rules(0);
        x.fly(200);
        asks(check, x, "day=200", true);
        asks(check, x, "rho=100 and angle=24 and steps=1", true);
    }
}
