import java.util.ArrayList;
import java.util.Arrays;
import java.util.HashMap;
import java.util.HashSet;
import java.util.List;
import java.util.Map;
import java.util.NoSuchElementException;
import java.util.PriorityQueue;
import java.util.Set;

/** The document once more, by other and plainer means: ROWS are texts of digits, ways are listed, not counted. */
final class Model {
    static final int NONE = -1;

    record Word(String row, int part, int worth) { }

    record Door(int kind, String hand) { }

    record Heard(int door, String row) { }

    /** What there was ahead of an ACT, whole. */
    record Before(List<Word> words, Set<Integer> wet) { }

    record Image(List<Word> words, Set<Integer> wet, List<Before> acts, List<Heard> heard, int[] status) { }

    interface Expr {
        int value(int ahead, int word);
    }

    private final StringBuilder tape = new StringBuilder();
    private List<Word> words = new ArrayList<>();
    private List<Door> doors = new ArrayList<>();
    private Set<Integer> wet = new HashSet<>();
    private Expr joins;
    private List<Before> acts = new ArrayList<>();
    private List<Heard> heard = new ArrayList<>();
    private int[] status = new int[3];
    private Image image;
    private int faultPlace = NONE;

    // the tape

    int feed(int a, int b, int c, int d, int e) {
        if (tape.length() + 20 > 600) {
            return NONE;
        }
        for (int four : new int[] {a, b, c, d, e}) {
            for (int shift = 24; shift >= 0; shift -= 8) {
                tape.append((char) ((four >> shift) & 255));
            }
        }
        return tape.length();
    }

    int book(int n) {
        if (n < 0 || n > tape.length()) {
            throw new IllegalArgumentException();
        }
        String text = tape.substring(0, n);
        tape.setLength(0);
        ModelText told = new ModelText(text);
        try {
            told.parse();
        } catch (ModelText.Fault f) {
            status[0]++;
            faultPlace = f.place;
            return f.kind;
        }
        faultPlace = NONE;
        words = told.words;
        doors = told.doors;
        joins = told.rule == null ? null : told.rule.of(this::value);
        wet = new HashSet<>();
        acts = new ArrayList<>();
        heard = new ArrayList<>();
        image = null;
        return 0;
    }

    private int value(String name, int ahead, int word) {
        switch (name) {
            case "left": return words.get(ahead).part;
            case "right": return words.get(word).part;
            case "first": return words.get(ahead).worth;
            case "next": return words.get(word).worth;
            case "long": return words.get(word).row.length();
            default: return ahead == word ? 1 : 0;
        }
    }

    int fault() {
        return faultPlace;
    }

    int count(int what) {
        switch (what) {
            case 0: return words.size();
            case 1: return doors.size();
            case 2: return bits(wet);
            case 3: return words.stream().mapToInt(Word::worth).sum();
            case 4: return words.stream().mapToInt(w -> w.row.length()).sum();
            case 5: return acts.size();
            case 6: return heard.size();
            case 7: return tape.length();
            case 8: case 9: case 10: return status[what - 8];
            default: throw new NoSuchElementException();
        }
    }

    private static int bits(Set<Integer> numbers) {
        int sum = 0;
        for (int n : numbers) {
            sum += 1 << n;
        }
        return sum;
    }

    int word(int word, int what) {
        Word w = wordOf(word);
        switch (what) {
            case 0: return number(w.row);
            case 1: return w.row.length();
            case 2: return w.part;
            case 3: return w.worth;
            case 4: {
                Set<Integer> can = new HashSet<>();
                for (int d = 0; d < doors.size(); d++) {
                    if (can(d, w.row)) {
                        can.add(d);
                    }
                }
                return bits(can);
            }
            default: throw new NoSuchElementException();
        }
    }

    int door(int door, int what) {
        Door d = doorOf(door);
        switch (what) {
            case 0: return d.kind;
            case 1: return d.hand.chars().map(c -> 1 << (c - '1')).sum();
            case 2: return wet.contains(door) ? 1 : 0;
            case 3: {
                Set<Integer> can = new HashSet<>();
                for (int w = 0; w < words.size(); w++) {
                    if (can(door, words.get(w).row)) {
                        can.add(w);
                    }
                }
                return bits(can);
            }
            case 4: {
                int couples = 0;
                for (Word a : words) {
                    for (Word b : words) {
                        if (a != b && heardOf(door, a.row).equals(heardOf(door, b.row))) {
                            couples++;
                        }
                    }
                }
                return couples / 2;
            }
            default: throw new NoSuchElementException();
        }
    }

    int hears(int door, int row) {
        doorOf(door);
        return number(heardOf(door, rowOf(row)));
    }

    private String heardOf(int door, String row) {
        String s = row;
        switch (doors.get(door).kind) {
            case 1: s = s.isEmpty() ? s : s.substring(0, s.length() - 1); break;
            case 2: s = s.replace("2", ""); break;
            case 3: s = s.replace('3', '1'); break;
            default: break;
        }
        return wet.contains(door) && s.length() <= 11 ? s + "1" : s;
    }

    private boolean can(int door, String row) {
        return row.chars().allMatch(c -> doors.get(door).hand.indexOf(c) >= 0);
    }

    // READ

    private boolean mayFollow(int ahead, int word) {
        return joins == null || joins.value(ahead, word) != 0;
    }

    private List<List<Integer>> readings(String row) {
        List<List<Integer>> all = new ArrayList<>();
        readOn(row, new ArrayList<>(), all);
        return all;
    }

    private void readOn(String rest, List<Integer> sofar, List<List<Integer>> all) {
        if (rest.isEmpty()) {
            if (!sofar.isEmpty()) {
                all.add(new ArrayList<>(sofar));
            }
            return;
        }
        for (int w = 0; w < words.size(); w++) {
            boolean may = sofar.isEmpty() || mayFollow(sofar.get(sofar.size() - 1), w);
            if (may && rest.startsWith(words.get(w).row)) {
                sofar.add(w);
                readOn(rest.substring(words.get(w).row.length()), sofar, all);
                sofar.remove(sofar.size() - 1);
            }
        }
    }

    /** The ways come in the order of their rows of numbers, so the first of the shortest is the one. */
    private List<Integer> reading(String row) {
        List<Integer> best = null;
        for (List<Integer> way : readings(row)) {
            if (best == null || way.size() < best.size()) {
                best = way;
            }
        }
        return best == null ? List.of() : best;
    }

    long read(int row, int what) {
        oneOf(what, 2);
        String s = rowOf(row);
        return what == 0 ? readings(s).size() : reading(s).size();
    }

    int reading(int row, int i) {
        List<Integer> way = reading(rowOf(row));
        if (i < 0 || i >= way.size()) {
            throw new NoSuchElementException();
        }
        return way.get(i);
    }

    int apart(int row, int other) {
        String a = rowOf(row);
        return apart(a, rowOf(other));
    }

    static int apart(String a, String b) {
        int[][] d = new int[a.length() + 1][b.length() + 1];
        for (int i = 0; i <= a.length(); i++) {
            for (int j = 0; j <= b.length(); j++) {
                if (i == 0 || j == 0) {
                    d[i][j] = i + j;
                } else {
                    int kept = d[i - 1][j - 1] + (a.charAt(i - 1) == b.charAt(j - 1) ? 0 : 1);
                    d[i][j] = Math.min(kept, 1 + Math.min(d[i - 1][j], d[i][j - 1]));
                }
            }
        }
        return d[a.length()][b.length()];
    }

    private int nearest(String row) {
        int best = NONE;
        for (int w = 0; w < words.size(); w++) {
            if (best == NONE || apart(row, words.get(w).row) < apart(row, words.get(best).row)) {
                best = w;
            }
        }
        return best;
    }

    int nearest(int row, int what) {
        oneOf(what, 2);
        String s = rowOf(row);
        int w = nearest(s);
        return what == 0 || w == NONE ? w : apart(s, words.get(w).row);
    }

    // ACTS

    private void keep() {
        acts.add(new Before(new ArrayList<>(words), new HashSet<>(wet)));
        if (acts.size() > 40) {
            acts.remove(0);
        }
    }

    int take(int row, int part, int worth) {
        if (words.size() == 10 || !isRow(row) || row == 0 || text(row).length() > 6 || part < 0 || part > 2
            || worth < 0 || worth > 99 || words.stream().anyMatch(w -> w.row.equals(text(row)))) {
            status[1]++;
            return NONE;
        }
        keep();
        words.add(new Word(text(row), part, worth));
        return words.size() - 1;
    }

    int die(int word) {
        Word w = wordOf(word);
        keep();
        words.remove(word);
        return number(w.row);
    }

    int worth(int word, int worth) {
        Word w = wordOf(word);
        if (worth < 0 || worth > 99) {
            status[1]++;
            return NONE;
        }
        keep();
        words.set(word, new Word(w.row, w.part, worth));
        return w.worth;
    }

    int part(int word, int part) {
        Word w = wordOf(word);
        if (part < 0 || part > 2) {
            status[1]++;
            return NONE;
        }
        keep();
        words.set(word, new Word(w.row, part, w.worth));
        return w.part;
    }

    boolean rain(int door, boolean isWet) {
        doorOf(door);
        if (wet.contains(door) == isWet) {
            status[1]++;
            return false;
        }
        keep();
        if (isWet) {
            wet.add(door);
        } else {
            wet.remove(door);
        }
        return true;
    }

    int undo() {
        if (acts.isEmpty()) {
            return NONE;
        }
        Before before = acts.remove(acts.size() - 1);
        words = new ArrayList<>(before.words);
        wet = new HashSet<>(before.wet);
        return acts.size();
    }

    // TO MEND and its like

    /** The shortest way through what has passed of the ROW, the WORD that is said, and how much of it. */
    int mend(int row) {
        String s = rowOf(row);
        PriorityQueue<int[]> open = new PriorityQueue<>((a, b) -> Integer.compare(a[0], b[0]));
        Set<String> closed = new HashSet<>();
        for (int w = 0; w < words.size(); w++) {
            open.add(new int[] {0, 0, w, 0});
        }
        while (!open.isEmpty()) {
            int[] at = open.poll();
            int cost = at[0];
            int i = at[1];
            int w = at[2];
            int j = at[3];
            if (!closed.add(i + "," + w + "," + j)) {
                continue;
            }
            String word = words.get(w).row;
            if (i == s.length() && j == word.length()) {
                return cost;
            }
            if (i < s.length()) {
                open.add(new int[] {cost + 1, i + 1, w, j});
            }
            if (j < word.length()) {
                open.add(new int[] {cost + 1, i, w, j + 1});
            }
            if (i < s.length() && j < word.length()) {
                open.add(new int[] {cost + (s.charAt(i) == word.charAt(j) ? 0 : 1), i + 1, w, j + 1});
            }
            for (int v = 0; j == word.length() && v < words.size(); v++) {
                if (mayFollow(w, v)) {
                    open.add(new int[] {cost, i, v, 0});
                }
            }
        }
        return NONE;
    }

    int twoWays() {
        PriorityQueue<Map.Entry<Integer, String>> open = new PriorityQueue<>(Map.Entry.comparingByKey());
        for (Word a : words) {
            for (Word b : words) {
                if (a != b && b.row.startsWith(a.row)) {
                    open.add(Map.entry(b.row.length(), b.row.substring(a.row.length())));
                }
            }
        }
        Set<String> closed = new HashSet<>();
        while (!open.isEmpty()) {
            int length = open.peek().getKey();
            String lead = open.poll().getValue();
            if (lead.isEmpty()) {
                return length;
            }
            if (!closed.add(lead)) {
                continue;
            }
            for (Word w : words) {
                if (lead.startsWith(w.row)) {
                    open.add(Map.entry(length, lead.substring(w.row.length())));
                } else if (w.row.startsWith(lead)) {
                    int more = w.row.length() - lead.length();
                    open.add(Map.entry(length + more, w.row.substring(lead.length())));
                }
            }
        }
        return NONE;
    }

    int prefixes() {
        int couples = 0;
        for (Word a : words) {
            for (Word b : words) {
                couples += a != b && a.row.startsWith(b.row) ? 1 : 0;
            }
        }
        return couples;
    }

    int tellApart() {
        int best = NONE;
        for (int set = (1 << doors.size()) - 1; set >= 0; set--) {
            Set<String> sounds = new HashSet<>();
            for (Word w : words) {
                StringBuilder all = new StringBuilder();
                for (int d = 0; d < doors.size(); d++) {
                    all.append((set >> d & 1) != 0 ? heardOf(d, w.row) : "").append('|');
                }
                sounds.add(all.toString());
            }
            boolean tells = sounds.size() == words.size();
            if (tells && (best == NONE || Integer.bitCount(set) <= Integer.bitCount(best))) {
                best = set;
            }
        }
        return best;
    }

    int newWord(int set) {
        if (set < 0 || set >= 1 << doors.size()) {
            throw new IllegalArgumentException();
        }
        List<String> layer = List.of("");
        for (int size = 1; size <= 4; size++) {
            List<String> longer = new ArrayList<>();
            for (String s : layer) {
                for (char c = '1'; c <= '4'; c++) {
                    longer.add(s + c);
                }
            }
            layer = longer;
            for (String s : layer) {
                if (isNew(s, set)) {
                    return number(s);
                }
            }
        }
        return NONE;
    }

    private boolean isNew(String row, int set) {
        for (Word w : words) {
            if (w.row.equals(row)) {
                return false;
            }
            for (int d = 0; d < doors.size(); d++) {
                if (heardOf(d, w.row).equals(heardOf(d, row))) {
                    return false;
                }
            }
        }
        for (int d = 0; d < doors.size(); d++) {
            if ((set >> d & 1) != 0 && !can(d, row)) {
                return false;
            }
        }
        return true;
    }

    int span(int word, int other) {
        return apart(wordOf(word).row, wordOf(other).row);
    }

    int closest(int what) {
        oneOf(what, 2);
        int[] best = null;
        for (int a = words.size() - 2; a >= 0; a--) {
            for (int b = words.size() - 1; b > a; b--) {
                int[] here = {span(a, b), 10 * a + b};
                best = best == null || here[0] <= best[0] ? here : best;
            }
        }
        return best == null ? NONE : best[what];
    }

    int said(int sounds) {
        if (sounds < 0 || sounds > 12) {
            throw new IllegalArgumentException();
        }
        return mostWorth(NONE, sounds, new HashMap<>());
    }

    private int mostWorth(int ahead, int sounds, Map<Integer, Integer> known) {
        Integer before = known.get(100 * ahead + sounds);
        if (before != null) {
            return before;
        }
        int most = 0;
        for (int w = 0; w < words.size(); w++) {
            int left = sounds - words.get(w).row.length();
            if (left >= 0 && (ahead == NONE || mayFollow(ahead, w))) {
                most = Math.max(most, words.get(w).worth + mostWorth(w, left, known));
            }
        }
        known.put(100 * ahead + sounds, most);
        return most;
    }

    long howMany(int sounds) {
        if (sounds < 1 || sounds > 12) {
            throw new IllegalArgumentException();
        }
        return ways(NONE, sounds, new HashMap<>());
    }

    private long ways(int ahead, int sounds, Map<Integer, Long> known) {
        if (sounds == 0) {
            return 1;
        }
        Long before = known.get(100 * ahead + sounds);
        if (before != null) {
            return before;
        }
        long sum = 0;
        for (int w = 0; w < words.size(); w++) {
            int left = sounds - words.get(w).row.length();
            if (left >= 0 && (ahead == NONE || mayFollow(ahead, w))) {
                sum += ways(w, left, known);
            }
        }
        known.put(100 * ahead + sounds, sum);
        return sum;
    }

    // what is HEARD

    int hear(int door, int row) {
        doorOf(door);
        if (heard.size() == 8 || !isRow(row)) {
            status[2]++;
            return NONE;
        }
        heard.add(new Heard(door, text(row)));
        return heard.size();
    }

    private List<Word> suspects() {
        List<Word> left = new ArrayList<>();
        for (Word w : words) {
            if (heard.stream().allMatch(h -> heardOf(h.door, w.row).equals(h.row))) {
                left.add(w);
            }
        }
        return left;
    }

    int which() {
        Set<Integer> numbers = new HashSet<>();
        for (Word w : suspects()) {
            numbers.add(words.indexOf(w));
        }
        return bits(numbers);
    }

    int listen(int what) {
        oneOf(what, 2);
        int best = NONE;
        int most = 0;
        for (int d = 0; d < doors.size(); d++) {
            Set<String> sounds = new HashSet<>();
            for (Word w : suspects()) {
                sounds.add(heardOf(d, w.row));
            }
            if (sounds.size() > most) {
                most = sounds.size();
                best = d;
            }
        }
        return what == 0 ? best : most;
    }

    void forget() {
        heard.clear();
    }

    // two DOORS

    private boolean understood(int word, int door) {
        return nearest(heardOf(door, words.get(word).row)) == word;
    }

    int telegraph(int door, int other) {
        doorOf(door);
        doorOf(other);
        Set<Integer> numbers = new HashSet<>();
        for (int w = 0; w < words.size(); w++) {
            if (can(door, words.get(w).row) && understood(w, other)) {
                numbers.add(w);
            }
        }
        return bits(numbers);
    }

    private int gain(int word, int atDoor, int otherWord) {
        int gain = understood(word, atDoor) ? words.get(word).worth : 0;
        return word == otherWord ? gain - 20 : gain;
    }

    private boolean isBest(int door, int atDoor, int word, int otherWord) {
        for (int w = 0; w < words.size(); w++) {
            if (can(door, words.get(w).row) && gain(w, atDoor, otherWord) > gain(word, atDoor, otherWord)) {
                return false;
            }
        }
        return can(door, words.get(word).row);
    }

    int game(int door, int other, int what) {
        doorOf(door);
        doorOf(other);
        oneOf(what, 2);
        if (door == other) {
            throw new IllegalArgumentException();
        }
        List<Integer> rests = new ArrayList<>();
        for (int a = 0; a < words.size(); a++) {
            for (int b = 0; b < words.size(); b++) {
                if (isBest(door, other, a, b) && isBest(other, door, b, a)) {
                    rests.add(10 * a + b);
                }
            }
        }
        return what == 0 ? rests.size() : rests.isEmpty() ? NONE : rests.get(0);
    }

    int frost(int seed, int n, int what) {
        oneOf(what, 3);
        if (n < 0 || n > 60) {
            throw new IllegalArgumentException();
        }
        int[] sums = new int[3];
        long s = seed;
        for (int i = 0; i < n && !doors.isEmpty() && !words.isEmpty(); i++) {
            int[] draws = new int[3];
            int[] of = {doors.size(), words.size(), 4};
            for (int k = 0; k < 3; k++) {
                s = (s * 1103515245L + 12345L) & 0xffffffffL;
                draws[k] = (int) (s % 0x80000000L / 0x10000L % of[k]);
            }
            Word w = words.get(draws[1]);
            String row = heardOf(draws[0], w.row);
            if (draws[2] == 0 && !row.isEmpty()) {
                row = row.substring(1);
            } else if (draws[2] == 1 && !row.isEmpty()) {
                row = row.substring(0, row.length() - 1);
            } else if (draws[2] == 2 && row.length() <= 11) {
                row = "4" + row;
            }
            if (nearest(row) == draws[1]) {
                sums[0]++;
                sums[1] += w.worth;
            }
            sums[2] += row.isEmpty() ? 1 : 0;
        }
        return sums[what];
    }

    void image() {
        image = new Image(new ArrayList<>(words), new HashSet<>(wet), new ArrayList<>(acts),
            new ArrayList<>(heard), status.clone());
    }

    boolean restore() {
        if (image == null) {
            return false;
        }
        words = new ArrayList<>(image.words);
        wet = new HashSet<>(image.wet);
        acts = new ArrayList<>(image.acts);
        heard = new ArrayList<>(image.heard);
        status = image.status.clone();
        return true;
    }

    // numbers and what they stand for

    static boolean isRow(int row) {
        String s = text(row);
        return row == 0 || row > 0 && s.length() <= 12 && s.indexOf('0') < 0;
    }

    static String text(int row) {
        return row == 0 ? "" : Integer.toString(row, 5);
    }

    static int number(String row) {
        return row.isEmpty() ? 0 : Integer.parseInt(row, 5);
    }

    private static String rowOf(int row) {
        if (!isRow(row)) {
            throw new IllegalArgumentException();
        }
        return text(row);
    }

    private Word wordOf(int word) {
        if (word < 0 || word >= words.size()) {
            throw new NoSuchElementException();
        }
        return words.get(word);
    }

    private Door doorOf(int door) {
        if (door < 0 || door >= doors.size()) {
            throw new NoSuchElementException();
        }
        return doors.get(door);
    }

    private static void oneOf(int what, int bound) {
        if (what < 0 || what >= bound) {
            throw new NoSuchElementException();
        }
    }
}
