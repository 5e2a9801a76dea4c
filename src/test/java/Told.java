import java.util.ArrayList;
import java.util.List;

/**
 * A RACE read from a text a second time, by other means than the class under test: the text is cut
 * into tokens first, and a fault is an exception.
 */
final class Told {
    interface Condition {
        boolean at(int own, int next, int week);
    }

    interface Value {
        int at(int own, int next, int week);
    }

    static final class Fault extends Exception {
        final int kind;
        final int place;

        Fault(int kind, int place) {
            this.kind = kind;
            this.place = place;
        }
    }

    record Pace(int cost, int chance) { }

    record Shop(int steps, List<Pace> paces) { }

    private record Token(char kind, String text, int place) { }

    final List<Shop> shops = new ArrayList<>();
    int weeks = 4;
    int prize;
    int second;
    int learn;
    int behind;
    int clauses;
    Condition sell = (own, next, week) -> false;
    Condition leave = (own, next, week) -> true;

    private final List<Token> tokens = new ArrayList<>();
    private int at;

    private Told() { }

    static Told read(int[] bytes) throws Fault {
        Told told = new Told();
        told.cut(bytes);
        told.clauses();
        if (told.shops.isEmpty()) {
            throw new Fault(4, bytes.length);
        }
        return told;
    }

    Told copy() {
        Told other = new Told();
        other.shops.addAll(shops);
        other.weeks = weeks;
        other.prize = prize;
        other.second = second;
        other.learn = learn;
        other.behind = behind;
        other.clauses = clauses;
        other.sell = sell;
        other.leave = leave;
        return other;
    }

    private void cut(int[] bytes) {
        StringBuilder all = new StringBuilder();
        for (int b : bytes) {
            all.append((char) b);
        }
        java.util.regex.Matcher m = java.util.regex.Pattern.compile("[a-z]+|[0-9]+|[^ ]").matcher(all);
        while (m.find()) {
            char c = m.group().charAt(0);
            char kind = c >= 'a' && c <= 'z' ? 'w' : c >= '0' && c <= '9' ? 'n' : 's';
            tokens.add(new Token(kind, m.group(), m.start()));
        }
        tokens.add(new Token('e', "", bytes.length));
    }

    private Token peek() {
        return tokens.get(at);
    }

    private boolean is(String text) {
        return peek().kind != 'e' && peek().text.equals(text);
    }

    private void need(String text) throws Fault {
        if (!is(text)) {
            throw new Fault(1, peek().place);
        }
        at++;
    }

    private int number(int least, int most) throws Fault {
        Token t = peek();
        if (t.kind != 'n') {
            throw new Fault(1, t.place);
        }
        java.math.BigInteger n = new java.math.BigInteger(t.text);
        if (n.compareTo(java.math.BigInteger.valueOf(least)) < 0 || n.compareTo(java.math.BigInteger.valueOf(most)) > 0) {
            throw new Fault(2, t.place);
        }
        at++;
        return n.intValue();
    }

    private void clauses() throws Fault {
        while (peek().kind != 'e') {
            clause();
            need(";");
            clauses++;
        }
    }

    private void clause() throws Fault {
        Token t = peek();
        at++;
        switch (t.kind == 'w' ? t.text : "") {
            case "shop" -> {
                if (shops.size() == 3) {
                    throw new Fault(3, t.place);
                }
                int steps = number(1, 4);
                List<Pace> paces = new ArrayList<>();
                while (is("pace")) {
                    if (paces.size() == 3) {
                        throw new Fault(3, peek().place);
                    }
                    at++;
                    int cost = number(0, 99);
                    need("at");
                    paces.add(new Pace(cost, number(0, 4)));
                }
                shops.add(new Shop(steps, paces));
            }
            case "prize" -> {
                prize = number(0, 9999);
                second = 0;
                if (is("second")) {
                    at++;
                    second = number(0, 9999);
                }
            }
            case "weeks" -> weeks = number(1, 6);
            case "learn" -> {
                learn = number(0, 4);
                need("behind");
                behind = number(1, 3);
            }
            case "sell" -> sell = c(0);
            case "leave" -> leave = c(0);
            default -> throw new Fault(1, t.place);
        }
    }

    private Condition c(int open) throws Fault {
        Condition left = a(open);
        while (is("or")) {
            at++;
            Condition l = left;
            Condition r = a(open);
            left = (o, n, w) -> l.at(o, n, w) || r.at(o, n, w);
        }
        return left;
    }

    private Condition a(int open) throws Fault {
        Condition left = b(open);
        while (is("and")) {
            at++;
            Condition l = left;
            Condition r = b(open);
            left = (o, n, w) -> l.at(o, n, w) && r.at(o, n, w);
        }
        return left;
    }

    private void enter(int open) throws Fault {
        if (open == 6) {
            throw new Fault(3, peek().place);
        }
        at++;
    }

    private Condition b(int open) throws Fault {
        if (is("not")) {
            enter(open);
            Condition inner = b(open + 1);
            return (o, n, w) -> !inner.at(o, n, w);
        }
        if (is("[")) {
            enter(open);
            Condition inner = c(open + 1);
            need("]");
            return inner;
        }
        Value l = e(open);
        Token r = peek();
        if (!is("<") && !is(">") && !is("=")) {
            throw new Fault(1, r.place);
        }
        at++;
        Value right = e(open);
        return switch (r.text) {
            case "<" -> (o, n, w) -> l.at(o, n, w) < right.at(o, n, w);
            case ">" -> (o, n, w) -> l.at(o, n, w) > right.at(o, n, w);
            default -> (o, n, w) -> l.at(o, n, w) == right.at(o, n, w);
        };
    }

    private Value e(int open) throws Fault {
        Value left = t(open);
        while (is("+") || is("-")) {
            boolean plus = is("+");
            at++;
            Value l = left;
            Value r = t(open);
            left = plus ? (o, n, w) -> l.at(o, n, w) + r.at(o, n, w) : (o, n, w) -> l.at(o, n, w) - r.at(o, n, w);
        }
        return left;
    }

    private Value t(int open) throws Fault {
        Value left = u(open);
        while (is("*")) {
            at++;
            Value l = left;
            Value r = u(open);
            left = (o, n, w) -> l.at(o, n, w) * r.at(o, n, w);
        }
        return left;
    }

    private Value u(int open) throws Fault {
        if (is("(")) {
            enter(open);
            Value inner = e(open + 1);
            need(")");
            return inner;
        }
        if (is("own")) {
            at++;
            return (o, n, w) -> o;
        }
        if (is("next")) {
            at++;
            return (o, n, w) -> n;
        }
        if (is("week")) {
            at++;
            return (o, n, w) -> w;
        }
        int value = number(0, 9999);
        return (o, n, w) -> value;
    }
}
