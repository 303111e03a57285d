import java.nio.charset.StandardCharsets;
import java.util.Random;
import java.util.concurrent.Callable;

/** All promises: runs of calls by chance, each answer compared with the Model's. The seeds are fixed. */
public final class RandomRunsTest {
    private static final int RUNS = 4000;
    private static final int CALLS = 400;
    private static int answers;

    private final Random random;
    private final RandomTexts texts;
    private final KnockBook book = new KnockBook();
    private final Model model = new Model();
    private final StringBuilder run = new StringBuilder();
    private boolean isWrong;
    private int calls;

    private RandomRunsTest(long seed) {
        random = new Random(seed);
        texts = new RandomTexts(random);
    }

    public static void main(String[] args) {
        int runs = args.length > 0 ? Integer.parseInt(args[0]) : RUNS;
        int first = args.length > 1 ? Integer.parseInt(args[1]) : 1;
        int wrong = 0;
        for (int seed = first; seed < first + runs && wrong < 3; seed++) {
            RandomRunsTest test = new RandomRunsTest(seed);
            test.go();
            if (test.isWrong) {
                wrong++;
                System.out.println("seed " + seed + ":\n" + test.run);
            }
        }
        System.out.println(answers + " answers compared");
        if (wrong != 0 || answers == 0) {
            System.exit(1);
        }
    }

    private void go() {
        tell();
        while (calls < CALLS && !isWrong) {
            if (to(90) == 0) {
                tell();
            } else {
                call();
            }
        }
    }

    private int to(int bound) {
        return random.nextInt(bound);
    }

    private void same(String call, Callable<?> ours, Callable<?> theirs) {
        String got = Check.answer(ours);
        String want = Check.answer(theirs);
        answers++;
        calls++;
        run.append(call).append(" -> ").append(got);
        if (!got.equals(want)) {
            isWrong = true;
            run.append(", due is ").append(want);
        }
        run.append('\n');
    }

    private void tell() {
        String text = texts.text();
        byte[] bytes = text.getBytes(StandardCharsets.ISO_8859_1);
        run.append("text: ").append(text).append('\n');
        for (int[] f : Check.feeds(bytes)) {
            same("feed", () -> book.feed(f[0], f[1], f[2], f[3], f[4]), () -> model.feed(f[0], f[1], f[2], f[3], f[4]));
        }
        int n = to(30) == 0 ? -1 + to(700) : bytes.length;
        same("book(" + n + ")", () -> book.book(n), () -> model.book(n));
        same("fault()", book::fault, model::fault);
        for (int what = 0; what <= 10; what++) {
            int w = what;
            same("count(" + w + ")", () -> book.count(w), () -> model.count(w));
        }
    }

    private int row() {
        switch (to(12)) {
            case 0: return random.nextInt();
            case 1: return to(244140624 + 3);
            case 2: return to(700);
            case 3: case 4: case 5: return Model.number(sounds(to(13)));
            default: return Model.number(spoken());
        }
    }

    private String sounds(int size) {
        StringBuilder s = new StringBuilder();
        for (int i = 0; i < size; i++) {
            s.append((char) ('1' + to(4)));
        }
        return s.toString();
    }

    /** WORDS one behind the other, as long as they fit, at times with SOUNDS that are lost, come in, or are others. */
    private String spoken() {
        StringBuilder s = new StringBuilder();
        int words = model.count(0);
        for (int n = to(13); n > 0 && words > 0; n--) {
            String more = Model.text(model.word(to(words), 0));
            if (s.length() + more.length() <= 12) {
                s.append(more);
            }
        }
        for (int n = to(2) == 0 ? 1 + to(3) : 0; n > 0; n--) {
            spoil(s);
        }
        return s.toString();
    }

    private void spoil(StringBuilder s) {
        int at = to(s.length() + 1);
        char sound = (char) ('1' + to(4));
        if (at < s.length() && to(2) == 0) {
            s.deleteCharAt(at);
        } else if (at < s.length() && to(2) == 0) {
            s.setCharAt(at, sound);
        } else if (s.length() < 12) {
            s.insert(at, sound);
        }
    }

    private int smallRow() {
        return to(3) == 0 ? row() : Model.number(sounds(to(8)));
    }

    private int heardRow(int door) {
        boolean known = model.count(0) > 0 && door >= 0 && door < model.count(1);
        return known && to(8) > 0 ? model.hears(door, model.word(to(model.count(0)), 0)) : row();
    }

    private int index(int bound) {
        return to(12) == 0 ? -2 + to(14) : to(Math.max(1, bound));
    }

    private int what(int bound) {
        return to(20) == 0 ? random.nextInt() : to(25) == 0 ? -1 + to(bound + 3) : to(bound);
    }

    private int near(int from, int to) {
        return to(15) == 0 ? random.nextInt() : from - 1 + to(to - from + 3);
    }

    private void call() {
        int w = index(model.count(0));
        int v = index(model.count(0));
        int d = index(model.count(1));
        int e = index(model.count(1));
        int r = row();
        int choice = to(38);
        if (choice < 19) {
            asking(choice, w, v, d, e, r);
        } else {
            acting(choice, w, d, r);
        }
    }

    private void asking(int choice, int w, int v, int d, int e, int r) {
        switch (choice) {
            case 0: { int q = what(11); same("count(" + q + ")", () -> book.count(q), () -> model.count(q)); break; }
            case 1: { int q = what(5); same("word(" + w + ", " + q + ")", () -> book.word(w, q), () -> model.word(w, q)); break; }
            case 2: { int q = what(5); same("door(" + d + ", " + q + ")", () -> book.door(d, q), () -> model.door(d, q)); break; }
            case 3: same("hears(" + d + ", " + r + ")", () -> book.hears(d, r), () -> model.hears(d, r)); break;
            case 4: { int q = what(2); same("read(" + r + ", " + q + ")", () -> book.read(r, q), () -> model.read(r, q)); break; }
            case 5: { int i = -1 + to(8); same("reading(" + r + ", " + i + ")", () -> book.reading(r, i), () -> model.reading(r, i)); break; }
            case 6: { int o = row(); same("apart(" + r + ", " + o + ")", () -> book.apart(r, o), () -> model.apart(r, o)); break; }
            case 7: { int q = what(2); same("nearest(" + r + ", " + q + ")", () -> book.nearest(r, q), () -> model.nearest(r, q)); break; }
            case 8: same("mend(" + r + ")", () -> book.mend(r), () -> model.mend(r)); break;
            case 9: same("twoWays()", book::twoWays, model::twoWays); break;
            case 10: same("prefixes()", book::prefixes, model::prefixes); break;
            case 11: same("tellApart()", book::tellApart, model::tellApart); break;
            case 12: { int q = to(10) == 0 ? random.nextInt() : to(1 + to(64)); same("newWord(" + q + ")", () -> book.newWord(q), () -> model.newWord(q)); break; }
            case 13: same("span(" + w + ", " + v + ")", () -> book.span(w, v), () -> model.span(w, v)); break;
            case 14: { int q = what(2); same("closest(" + q + ")", () -> book.closest(q), () -> model.closest(q)); break; }
            case 15: { int n = near(0, 12); same("said(" + n + ")", () -> book.said(n), () -> model.said(n)); break; }
            case 16: { int n = near(1, 12); same("howMany(" + n + ")", () -> book.howMany(n), () -> model.howMany(n)); break; }
            case 17: same("telegraph(" + d + ", " + e + ")", () -> book.telegraph(d, e), () -> model.telegraph(d, e)); break;
            default: { int q = what(2); same("game(" + d + ", " + e + ", " + q + ")", () -> book.game(d, e, q), () -> model.game(d, e, q)); break; }
        }
    }

    private void acting(int choice, int w, int d, int r) {
        switch (choice) {
            case 19: { int s = random.nextInt(); int n = near(0, 60); int q = what(3); same("frost(" + s + ", " + n + ", " + q + ")", () -> book.frost(s, n, q), () -> model.frost(s, n, q)); break; }
            case 20: case 21: case 22: {
                int s = smallRow();
                int p = near(0, 2);
                int q = near(0, 99);
                same("take(" + s + ", " + p + ", " + q + ")", () -> book.take(s, p, q), () -> model.take(s, p, q));
                break;
            }
            case 23: same("die(" + w + ")", () -> book.die(w), () -> model.die(w)); break;
            case 24: case 25: { int q = near(0, 99); same("worth(" + w + ", " + q + ")", () -> book.worth(w, q), () -> model.worth(w, q)); break; }
            case 26: case 27: { int q = near(0, 2); same("part(" + w + ", " + q + ")", () -> book.part(w, q), () -> model.part(w, q)); break; }
            case 28: case 29: { boolean q = to(2) == 0; same("rain(" + d + ", " + q + ")", () -> book.rain(d, q), () -> model.rain(d, q)); break; }
            case 30: same("undo()", book::undo, model::undo); break;
            case 31: case 32: { int h = heardRow(d); same("hear(" + d + ", " + h + ")", () -> book.hear(d, h), () -> model.hear(d, h)); break; }
            case 33: same("which()", book::which, model::which); break;
            case 34: { int q = what(2); same("listen(" + q + ")", () -> book.listen(q), () -> model.listen(q)); break; }
            case 35: same("forget()", () -> { book.forget(); return 0; }, () -> { model.forget(); return 0; }); break;
            case 36: if (to(3) == 0) { same("image()", () -> { book.image(); return 0; }, () -> { model.image(); return 0; }); } break;
            default: if (to(3) == 0) { same("restore()", book::restore, model::restore); } break;
        }
    }
}
