import java.util.ArrayList;
import java.util.Arrays;
import java.util.HashSet;
import java.util.List;
import java.util.Map;
import java.util.Set;

/** The small language of the rules, read into trees. */
final class Language {
    interface Value {
        int of(Map<String, Integer> values);
    }

    static final class Rule {
        int steer;
        Value holds;
    }

    static final class Fault extends RuntimeException {
        private static final long serialVersionUID = 1L;
        final int kind;
        final int place;

        Fault(int kind, int place) {
            this.kind = kind;
            this.place = place;
        }
    }

    private static final Set<String> NAMES =
            new HashSet<>(Arrays.asList("rho", "angle", "day", "far", "lead", "steps", "torn"));
    private static final List<String> STEERS = Arrays.asList("in", "keep", "out");
    /** Tokens as texts, with the places of their first bytes; the last one is empty, at the length. */
    private final List<String> tokens = new ArrayList<>();
    private final List<Integer> places = new ArrayList<>();
    private int now;
    private int open;

    Language(String text) {
        int i = 0;
        while (i < text.length()) {
            char c = text.charAt(i);
            int end = i + 1;
            if (c >= 'a' && c <= 'z') {
                while (end < text.length() && text.charAt(end) >= 'a' && text.charAt(end) <= 'z') {
                    end++;
                }
            } else if (c >= '0' && c <= '9') {
                while (end < text.length() && text.charAt(end) >= '0' && text.charAt(end) <= '9') {
                    end++;
                }
            }
            if (c != ' ') {
                tokens.add(text.substring(i, end));
                places.add(i);
            }
            i = end;
        }
        tokens.add("");
        places.add(text.length());
    }

    private String token() {
        return tokens.get(now);
    }

    private Fault fault(int kind) {
        return new Fault(kind, places.get(now));
    }

    private void eat(String due) {
        if (!token().equals(due)) {
            throw fault(1);
        }
        now++;
    }

    private void enter() {
        open++;
        if (open == 7) {
            throw fault(3);
        }
        now++;
    }

    List<Rule> readAll() {
        List<Rule> rules = new ArrayList<>();
        while (!token().isEmpty()) {
            Rule rule = new Rule();
            rule.steer = STEERS.indexOf(token());
            if (rule.steer < 0) {
                throw fault(1);
            }
            if (rules.size() == 16) {
                throw fault(3);
            }
            now++;
            eat("if");
            rule.holds = c();
            eat(";");
            rules.add(rule);
        }
        return rules;
    }

    private Value c() {
        Value left = a();
        while (token().equals("or")) {
            now++;
            Value one = left;
            Value two = a();
            left = v -> one.of(v) != 0 || two.of(v) != 0 ? 1 : 0;
        }
        return left;
    }

    private Value a() {
        Value left = b();
        while (token().equals("and")) {
            now++;
            Value one = left;
            Value two = b();
            left = v -> one.of(v) != 0 && two.of(v) != 0 ? 1 : 0;
        }
        return left;
    }

    private Value b() {
        if (token().equals("not")) {
            enter();
            Value inner = b();
            open--;
            return v -> inner.of(v) == 0 ? 1 : 0;
        }
        if (token().equals("[")) {
            enter();
            Value inner = c();
            eat("]");
            open--;
            return inner;
        }
        Value one = e();
        String sign = token();
        if (!sign.equals("<") && !sign.equals(">") && !sign.equals("=")) {
            throw fault(1);
        }
        now++;
        Value two = e();
        if (sign.equals("<")) {
            return v -> one.of(v) < two.of(v) ? 1 : 0;
        }
        return sign.equals(">") ? v -> one.of(v) > two.of(v) ? 1 : 0 : v -> one.of(v) == two.of(v) ? 1 : 0;
    }

    private Value e() {
        Value left = t();
        while (token().equals("+") || token().equals("-")) {
            boolean plus = token().equals("+");
            now++;
            Value one = left;
            Value two = t();
            left = plus ? v -> one.of(v) + two.of(v) : v -> one.of(v) - two.of(v);
        }
        return left;
    }

    private Value t() {
        Value left = u();
        while (token().equals("*") || token().equals("/")) {
            boolean times = token().equals("*");
            now++;
            Value one = left;
            Value two = u();
            left = times ? v -> one.of(v) * two.of(v) : v -> two.of(v) == 0 ? 0 : one.of(v) / two.of(v);
        }
        return left;
    }

    private Value u() {
        String word = token();
        if (!word.isEmpty() && Character.isDigit(word.charAt(0))) {
            if (new java.math.BigInteger(word).bitLength() > 14 || Integer.parseInt(word) > 9999) {
                throw fault(2);
            }
            int number = Integer.parseInt(word);
            now++;
            return v -> number;
        }
        if (NAMES.contains(word)) {
            now++;
            return v -> v.get(word);
        }
        if (word.equals("(")) {
            enter();
            Value inner = e();
            eat(")");
            open--;
            return inner;
        }
        if (!word.equals("least") && !word.equals("most")) {
            throw fault(1);
        }
        now++;
        if (!token().equals("(")) {
            throw fault(1);
        }
        enter();
        Value one = e();
        eat(",");
        Value two = e();
        eat(")");
        open--;
        boolean least = word.equals("least");
        return v -> least ? Math.min(one.of(v), two.of(v)) : Math.max(one.of(v), two.of(v));
    }
}
