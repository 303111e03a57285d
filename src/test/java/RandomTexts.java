import java.util.ArrayList;
import java.util.Collections;
import java.util.List;
import java.util.Random;

/** BOOKS by chance: most of them are told as they must be, some are spoilt. */
final class RandomTexts {
    private static final String[] VALUES = {"left", "right", "first", "next", "long", "same"};
    private static final String[] ODD = {
        "thing", "deed", "prayer", "pine", "oak", "felt", "glass", "joins", "not", "and", "or", "left", "same",
        ";", "(", ")", "+", "-", "*", "/", "<", "=", "0", "7", "99", "100", "0099", "00099", "12345", "9999",
        "k", "kprs", "kk", "skkkkkk", "skkkkkx", "x", "#", "A", "\t", "\u00e9", "\u0000", "((((((", "))", "not not"};
    private final Random random;

    RandomTexts(Random random) {
        this.random = random;
    }

    private int to(int bound) {
        return random.nextInt(bound);
    }

    private boolean chance(int of) {
        return to(of) == 0;
    }

    private String blank() {
        return chance(3) ? " \n".repeat(to(2)) + " " : " ";
    }

    private String sounds(int most, String letters) {
        StringBuilder s = new StringBuilder();
        for (int n = 1 + to(most); n > 0; n--) {
            s.append(letters.charAt(to(letters.length())));
        }
        return s.toString();
    }

    String text() {
        List<String> lines = new ArrayList<>();
        String letters = new String[] {"kprs", "kp", "kr", "kpr", "k", "ps"}[to(6)];
        int longest = 1 + to(6);
        List<String> rows = new ArrayList<>();
        for (int n = chance(30) ? 11 : to(11); n > 0; n--) {
            String row = sounds(longest, letters);
            if (!rows.contains(row) || chance(20)) {
                rows.add(row);
                String part = new String[] {"thing", "deed", "prayer"}[to(3)];
                lines.add(part + blank() + row + (chance(3) ? "" : blank()) + to(chance(2) ? 6 : 100) + ";");
            }
        }
        for (int n = chance(30) ? 7 : to(7); n > 0; n--) {
            List<String> hand = new ArrayList<>(List.of("k", "p", "r", "s"));
            Collections.shuffle(hand, random);
            String wood = new String[] {"pine", "oak", "felt", "glass"}[to(4)];
            lines.add(wood + blank() + String.join("", hand.subList(0, 1 + to(4))) + blank() + ";");
        }
        if (!chance(3)) {
            lines.add("joins " + expr(chance(20) ? 8 : to(3), 1 + to(3)) + ";");
        }
        Collections.shuffle(lines, random);
        String text = String.join(chance(2) ? "" : " ", lines);
        for (int n = chance(3) ? 1 + to(2) : 0; n > 0; n--) {
            text = spoilt(text);
        }
        return text.length() > 600 ? text.substring(0, 600) : text;
    }

    private String spoilt(String text) {
        int a = to(text.length() + 1);
        int b = Math.min(text.length(), a + to(4));
        switch (to(5)) {
            case 0: return text.substring(0, a);
            case 1: return text.substring(0, a) + text.substring(b);
            case 2: return text.substring(0, a) + ODD[to(ODD.length)] + text.substring(b);
            case 3: return text.substring(0, a) + " " + ODD[to(ODD.length)] + " " + text.substring(a);
            default: return text + ODD[to(ODD.length)];
        }
    }

    private String expr(int deep, int wide) {
        String s = and(deep, wide);
        while (chance(4)) {
            s += " or " + and(deep, wide);
        }
        return s;
    }

    private String and(int deep, int wide) {
        String s = not(deep, wide);
        while (chance(4)) {
            s += " and " + not(deep, wide);
        }
        return s;
    }

    private String not(int deep, int wide) {
        String s = "not ".repeat(chance(4) ? to(chance(8) ? 9 : 3) : 0) + sum(deep, wide);
        return chance(2) ? s + new String[] {"<", "=", " < ", " ="}[to(4)] + sum(deep, wide) : s;
    }

    private String sum(int deep, int wide) {
        String s = product(deep, wide);
        for (int n = to(wide); n > 0; n--) {
            s += (chance(2) ? "+" : "-") + product(deep, wide);
        }
        return s;
    }

    private String product(int deep, int wide) {
        String s = place(deep, wide);
        for (int n = to(wide); n > 0 && chance(2); n--) {
            s += (chance(2) ? "*" : " / ") + place(deep, wide);
        }
        return s;
    }

    private String place(int deep, int wide) {
        if (deep > 0 && chance(2)) {
            return "(" + expr(deep - 1, wide > 1 && chance(2) ? wide - 1 : 1) + ")";
        }
        return chance(3) ? "" + to(chance(4) ? 10000 : 4) : VALUES[to(VALUES.length)];
    }
}
