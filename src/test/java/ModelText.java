import java.util.ArrayList;
import java.util.List;
import java.util.Set;
import java.util.regex.Matcher;
import java.util.regex.Pattern;

/** The Model's reader of a TEXT: all TOKENS are cut first, a FAULT is thrown. */
final class ModelText {
    static final class Fault extends RuntimeException {
        private static final long serialVersionUID = 1;
        final int kind;
        final int place;

        Fault(int kind, int place) {
            this.kind = kind;
            this.place = place;
        }
    }

    interface Values {
        int of(String name, int ahead, int word);
    }

    interface Rule {
        Model.Expr of(Values values);
    }

    record Token(String text, int place) { }

    private static final Pattern TOKEN = Pattern.compile("[ \\n]*([a-z]+|[0-9]+|[^ \\n])", Pattern.DOTALL);
    private static final List<String> PARTS = List.of("thing", "deed", "prayer");
    private static final List<String> WOODS = List.of("pine", "oak", "felt", "glass");
    private static final Set<String> VALUES = Set.of("left", "right", "first", "next", "long", "same");

    final List<Model.Word> words = new ArrayList<>();
    final List<Model.Door> doors = new ArrayList<>();
    Rule rule;
    private final List<Token> tokens = new ArrayList<>();
    private int at;

    ModelText(String text) {
        Matcher m = TOKEN.matcher(text);
        for (int from = 0; m.find(from); from = m.end()) {
            tokens.add(new Token(m.group(1), m.start(1)));
        }
        tokens.add(new Token("", text.length()));
    }

    private String here() {
        return tokens.get(at).text;
    }

    private Fault fault(int kind) {
        return new Fault(kind, tokens.get(at).place);
    }

    private boolean isWord() {
        return here().matches("[a-z]+");
    }

    private boolean isNumber() {
        return here().matches("[0-9]+");
    }

    private boolean passes(String text) {
        if (here().equals(text)) {
            at++;
            return true;
        }
        return false;
    }

    private void must(String text) {
        if (!passes(text)) {
            throw fault(1);
        }
    }

    void parse() {
        while (!here().isEmpty()) {
            int part = PARTS.indexOf(here());
            int wood = WOODS.indexOf(here());
            if (part >= 0 && words.size() == 10 || wood >= 0 && doors.size() == 6) {
                throw fault(2);
            }
            if (part >= 0) {
                at++;
                String row = row();
                words.add(new Model.Word(row, part, worth()));
            } else if (wood >= 0) {
                at++;
                doors.add(new Model.Door(wood, hand()));
            } else if (here().equals("joins")) {
                if (rule != null) {
                    throw fault(5);
                }
                at++;
                rule = expr(0);
            } else {
                throw fault(1);
            }
            must(";");
        }
    }

    private String sounds() {
        if (!isWord()) {
            throw fault(1);
        }
        if (!here().matches("[kprs]+")) {
            throw fault(3);
        }
        return here().replace('k', '1').replace('p', '2').replace('r', '3').replace('s', '4');
    }

    private String row() {
        String row = sounds();
        if (row.length() >= 7) {
            throw fault(2);
        }
        if (words.stream().anyMatch(w -> w.row().equals(row))) {
            throw fault(4);
        }
        at++;
        return row;
    }

    private String hand() {
        String hand = sounds();
        if (hand.chars().distinct().count() < hand.length()) {
            throw fault(4);
        }
        at++;
        return hand;
    }

    private int number() {
        if (!isNumber()) {
            throw fault(1);
        }
        if (here().length() >= 5) {
            throw fault(2);
        }
        return Integer.parseInt(here());
    }

    private int worth() {
        int worth = number();
        if (worth > 99) {
            throw fault(2);
        }
        at++;
        return worth;
    }

    private static int bit(boolean holds) {
        return holds ? 1 : 0;
    }

    private interface Joined {
        int of(int a, int b);
    }

    private static Rule both(Rule a, Rule b, Joined how) {
        return values -> {
            Model.Expr left = a.of(values);
            Model.Expr right = b.of(values);
            return (ahead, word) -> how.of(left.value(ahead, word), right.value(ahead, word));
        };
    }

    private Rule expr(int around) {
        if (around >= 6 && (isNumber() || isWord() || here().equals("("))) {
            throw fault(2);
        }
        Rule left = and(around);
        while (passes("or")) {
            left = both(left, and(around), (a, b) -> bit(a != 0 || b != 0));
        }
        return left;
    }

    private Rule and(int around) {
        Rule left = not(around, 1);
        while (passes("and")) {
            left = both(left, not(around, 1), (a, b) -> bit(a != 0 && b != 0));
        }
        return left;
    }

    private Rule not(int around, int nots) {
        if (here().equals("not")) {
            if (nots == 7) {
                throw fault(2);
            }
            at++;
            Rule inner = not(around, nots + 1);
            return values -> {
                Model.Expr under = inner.of(values);
                return (ahead, word) -> bit(under.value(ahead, word) == 0);
            };
        }
        Rule left = sum(around);
        if (passes("<")) {
            return both(left, sum(around), (a, b) -> bit(a < b));
        }
        if (passes("=")) {
            return both(left, sum(around), (a, b) -> bit(a == b));
        }
        return left;
    }

    private Rule sum(int around) {
        Rule left = product(around);
        while (true) {
            if (passes("+")) {
                left = both(left, product(around), (a, b) -> a + b);
            } else if (passes("-")) {
                left = both(left, product(around), (a, b) -> a - b);
            } else {
                return left;
            }
        }
    }

    private Rule product(int around) {
        Rule left = place(around);
        while (true) {
            if (passes("*")) {
                left = both(left, place(around), (a, b) -> a * b);
            } else if (passes("/")) {
                left = both(left, place(around), (a, b) -> b == 0 ? 0 : (int) ((long) a / b));
            } else {
                return left;
            }
        }
    }

    private Rule place(int around) {
        if (isNumber()) {
            int n = number();
            at++;
            return values -> (ahead, word) -> n;
        }
        if (passes("(")) {
            Rule inner = expr(around + 1);
            must(")");
            return inner;
        }
        if (!isWord()) {
            throw fault(1);
        }
        String name = here();
        if (!VALUES.contains(name)) {
            throw fault(3);
        }
        at++;
        return values -> (ahead, word) -> values.of(name, ahead, word);
    }
}
