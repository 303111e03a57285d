import java.util.ArrayList;
import java.util.HashSet;
import java.util.List;
import java.util.Random;
import java.util.Set;

/** Promises 19 and 20 without any thought: all rows of SOUNDS up to some length are tried. */
public final class BruteForceTest {
    private static final Check CHECK = new Check();
    private static final int LONGEST = 7;
    private static final String[] RULES = {"1", "not same", "first<next", "next=first+1", "long=2", "same or next=0"};

    private final List<String> words = new ArrayList<>();
    private final List<Integer> worths = new ArrayList<>();
    private final Set<String> said = new HashSet<>();
    private final Set<String> readable = new HashSet<>();
    private final int rule;
    private final String text;
    private final KnockBook book;

    private BruteForceTest(Random random, int letters) {
        StringBuilder lines = new StringBuilder();
        for (int n = 1 + random.nextInt(5); n > 0; n--) {
            String word = sounds(random, 1 + random.nextInt(4), letters);
            if (!words.contains(word)) {
                words.add(word);
                worths.add(random.nextInt(4));
                lines.append("thing " + word + " " + worths.get(words.size() - 1) + ";");
            }
        }
        rule = random.nextInt(RULES.length);
        text = lines + "joins " + RULES[rule] + ";";
        book = Check.told(text);
    }

    public static void main(String[] args) {
        Random random = new Random(19);
        for (int i = 0; i < 600; i++) {
            BruteForceTest test = new BruteForceTest(random, i % 2 == 0 ? 2 : 3);
            test.twoWays();
            test.mend(random);
        }
        CHECK.end();
    }

    private static String sounds(Random random, int size, int letters) {
        StringBuilder s = new StringBuilder();
        for (int i = 0; i < size; i++) {
            s.append("kpr".charAt(random.nextInt(letters)));
        }
        return s.toString();
    }

    private boolean mayFollow(int ahead, int word) {
        int first = worths.get(ahead);
        int next = worths.get(word);
        switch (rule) {
            case 0: return true;
            case 1: return ahead != word;
            case 2: return first < next;
            case 3: return next == first + 1;
            case 4: return words.get(word).length() == 2;
            default: return ahead == word || next == 0;
        }
    }

    private int ways(String row) {
        int[] ways = new int[row.length() + 1];
        ways[0] = 1;
        for (int i = 1; i <= row.length(); i++) {
            for (String w : words) {
                ways[i] += row.substring(0, i).endsWith(w) ? ways[i - w.length()] : 0;
            }
        }
        return ways[row.length()];
    }

    private void twoWays() {
        int due = 0;
        List<String> layer = List.of("");
        for (int size = 1; size <= LONGEST && due == 0; size++) {
            List<String> longer = new ArrayList<>();
            for (String s : layer) {
                for (char c : "kpr".toCharArray()) {
                    longer.add(s + c);
                }
            }
            layer = longer;
            for (String s : layer) {
                due = ways(s) >= 2 ? size : due;
            }
        }
        int answer = book.twoWays();
        CHECK.due("20: of " + text, due, () -> answer > LONGEST || answer == -1 ? 0 : answer);
    }

    private void mend(Random random) {
        for (int w = 0; w < words.size(); w++) {
            sayOn(words.get(w), w);
        }
        for (int i = 0; i < 4; i++) {
            String row = sounds(random, random.nextInt(5), 3);
            int least = 99;
            for (String r : readable) {
                least = Math.min(least, Model.apart(row, r));
            }
            int due = least;
            CHECK.due("19: " + row + " of " + text, due, () -> book.mend(Check.row(row)));
        }
    }

    /** No more than 8 SOUNDS: a ROW of 4 is never further from the nearest than 4. */
    private void sayOn(String row, int last) {
        if (row.length() > 8 || !said.add(row + last)) {
            return;
        }
        readable.add(row);
        for (int w = 0; w < words.size(); w++) {
            if (mayFollow(last, w)) {
                sayOn(row + words.get(w), w);
            }
        }
    }
}
