import java.util.Random;

/** Texts of rules by chance, and what feed takes of a text. */
final class Texts {
    private static final String[] NAMES = {"rho", "angle", "day", "far", "lead", "steps", "torn"};
    private static final String[] TOKENS = {"in", "keep", "out", "if", "or", "and", "not", "rho", "least", "most", "(",
        ")", "[", "]", "<", ">", "=", "+", "-", "*", "/", ",", ";", "0", "9999", "10000", "00012", "99999999999", " ",
        "x", "inn", "leastt", "IN", "!", "(((((((", "not not not not not not not "};

    private Texts() {
    }

    /** The twenty bytes of a text from a place on, as five numbers. */
    static int[] five(String text, int from) {
        int[] five = new int[5];
        for (int i = 0; i < 20; i++) {
            int sign = from + i < text.length() ? text.charAt(from + i) : 0;
            five[i / 4] = five[i / 4] << 8 | sign;
        }
        return five;
    }

    /** Feeds a text to an object with an empty tape and reads just it. */
    static int tell(LightSails x, String text) {
        for (int i = 0; i < text.length(); i += 20) {
            int[] f = five(text, i);
            x.feed(f[0], f[1], f[2], f[3], f[4]);
        }
        return x.rules(text.length());
    }

    private static String blank(Random r) {
        return r.nextInt(4) == 0 ? " ".repeat(1 + r.nextInt(2)) : "";
    }

    static String valid(Random r) {
        StringBuilder text = new StringBuilder();
        int rules = r.nextInt(4) == 0 ? r.nextInt(18) : 1 + r.nextInt(4);
        for (int i = 0; i < rules; i++) {
            String steer = new String[] {"in", "keep", "out"}[r.nextInt(3)];
            int depth = rules > 6 ? 0 : r.nextInt(5);
            String rule = blank(r) + steer + " " + blank(r) + "if " + c(r, depth) + blank(r) + ";";
            if (text.length() + rule.length() <= 298) {
                text.append(rule);
            }
        }
        return text.append(blank(r)).toString();
    }

    private static String c(Random r, int depth) {
        String text = a(r, depth);
        while (depth > 0 && r.nextInt(4) == 0) {
            text += " or " + a(r, depth - 1);
        }
        return text;
    }

    private static String a(Random r, int depth) {
        String text = b(r, depth);
        while (depth > 0 && r.nextInt(4) == 0) {
            text += " and " + b(r, depth - 1);
        }
        return text;
    }

    private static String b(Random r, int depth) {
        int way = depth > 0 ? r.nextInt(4) : 3;
        if (way == 0) {
            return blank(r) + "not " + b(r, depth - 1);
        }
        if (way == 1) {
            return blank(r) + "[" + c(r, depth - 1) + blank(r) + "]";
        }
        return e(r, depth) + blank(r) + "<>=".charAt(r.nextInt(3)) + e(r, depth);
    }

    private static String e(Random r, int depth) {
        String text = t(r, depth);
        while (depth > 0 && r.nextInt(3) == 0) {
            text += blank(r) + "+-".charAt(r.nextInt(2)) + t(r, depth - 1);
        }
        return text;
    }

    private static String t(Random r, int depth) {
        String text = u(r, depth);
        while (depth > 0 && r.nextInt(3) == 0) {
            text += blank(r) + "*/".charAt(r.nextInt(2)) + u(r, depth - 1);
        }
        return text;
    }

    private static String u(Random r, int depth) {
        int way = depth > 0 ? r.nextInt(7) : r.nextInt(4);
        if (way < 2) {
            return blank(r) + NAMES[r.nextInt(NAMES.length)];
        }
        if (way < 4) {
            int[] often = {0, 1, 2, 5, 36, 72, 100, 9999};
            return blank(r) + (r.nextBoolean() ? often[r.nextInt(often.length)] : r.nextInt(10000));
        }
        if (way < 6) {
            return blank(r) + "(" + e(r, depth - 1) + blank(r) + ")";
        }
        String word = r.nextBoolean() ? "least" : "most";
        return blank(r) + word + blank(r) + "(" + e(r, depth - 1) + blank(r) + "," + e(r, depth - 1) + ")";
    }

    /** A text with some bytes gone, put in or changed. */
    static String spoilt(Random r) {
        StringBuilder text = new StringBuilder(valid(r));
        int changes = 1 + r.nextInt(2);
        for (int i = 0; i < changes; i++) {
            int at = text.length() == 0 ? 0 : r.nextInt(text.length());
            switch (r.nextInt(4)) {
                case 0:
                    text.setLength(at);
                    break;
                case 1:
                    text.delete(at, Math.min(text.length(), at + 1 + r.nextInt(3)));
                    break;
                case 2:
                    text.insert(at, (char) r.nextInt(256));
                    break;
                default:
                    text.insert(at, TOKENS[r.nextInt(TOKENS.length)]);
                    break;
            }
        }
        return text.length() > 300 ? text.substring(0, 300) : text.toString();
    }
}
