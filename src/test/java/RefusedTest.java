import java.util.ArrayList;
import java.util.List;

/**
 * What the document says of the state behind a call that is refused: of two objects with the same calls
 * behind them one gets the refused call too, and both must look the same then, but for what the document names.
 */
public final class RefusedTest {
    private static final Check CHECK = new Check();
    private static final int MIN = Integer.MIN_VALUE;
    private static final int MAX = Integer.MAX_VALUE;
    private static final String NO_SUCH = "throws.NoSuchElementException";
    private static final String ILLEGAL = "throws.IllegalArgumentException";
    private static final String TEXT = "thing kk 5;deed kkp 3;prayer r 7;thing pr 4;pine kprs;oak kp;felt kr;glass kpr;"
        + "joins left+right<4;";
    private static final String TEN = "thing k 0;thing p 1;thing r 2;thing s 3;thing kk 4;"
        + "deed kp 5;deed kr 6;deed ks 7;deed pk 8;prayer pp 99;pine k;";

    private interface State {
        KnockBook make();
    }

    private interface Call {
        Object on(KnockBook book);
    }

    private RefusedTest() {
    }

    public static void main(String[] args) {
        tape();
        books();
        whats();
        words();
        doors();
        rows();
        numbers();
        acts();
        heard();
        undoAndRestore();
        answersChangeNothing();
        CHECK.end();
    }

    /** Something of all that there is: WORDS, DOORS, a rule, ACTS of each kind, an image, a FAULT, STATUS, a tape. */
    private static KnockBook rich() {
        KnockBook x = Check.told(TEXT);
        x.worth(0, 6);
        x.hear(2, 6);
        x.hear(2, 5);
        x.image();
        x.take(Check.row("srp"), 1, 9);
        x.die(1);
        x.part(0, 1);
        x.rain(1, true);
        x.rain(3, true);
        x.hear(1, Check.row("kk"));
        x.rain(3, true);
        x.take(0, 0, 0);
        Check.tell(x, "thing k 1;thing #");
        // "thing s 9;oak r;"
        x.feed(0x7468696e, 0x67207320, 0x393b6f61, 0x6b20723b, 0x20202020);
        return x;
    }

    private static KnockBook fullTape() {
        KnockBook x = rich();
        for (int i = 1; i < 30; i++) {
            x.feed(0x20202020, 0x20202020, 0x20202020, 0x20202020, 0x20202020);
        }
        return x;
    }

    private static KnockBook fullOfActs() {
        KnockBook x = Check.told(TEN);
        for (int i = 0; i < 40; i++) {
            x.worth(0, i);
        }
        return x;
    }

    private static KnockBook fullOfHeard() {
        KnockBook x = rich();
        for (int i = 2; i < 8; i++) {
            x.hear(0, i == 7 ? 0 : 1);
        }
        return x;
    }

    /** The answer is as due, and nothing else is: but STATUS of this number (NONE: nothing at all) is one more. */
    private static void refused(String what, State state, Call call, Object answer, int status) {
        KnockBook called = state.make();
        KnockBook twin = state.make();
        int before = status < 0 ? 0 : called.count(8 + status);
        CHECK.due(what, answer, () -> call.on(called));
        if (status >= 0) {
            CHECK.due(what + ": one more is refused", before + 1, () -> called.count(8 + status));
        }
        List<String> want = Watch.all(twin);
        if (status >= 0) {
            want.set(1 + 8 + status, "count " + (8 + status) + " is " + (before + 1));
        }
        sameLines(what, want, Watch.all(called));
    }

    private static void sameLines(String what, List<String> want, List<String> got) {
        int same = 0;
        while (same < want.size() && same < got.size() && want.get(same).equals(got.get(same))) {
            same++;
        }
        String wantHere = same < want.size() ? want.get(same) : "the end";
        String gotHere = same < got.size() ? got.get(same) : "the end";
        CHECK.due(what + ": the state", wantHere, () -> gotHere);
    }

    private static void nothingChanges(String what, Call call, Object answer) {
        refused(what, RefusedTest::rich, call, answer, -1);
        refused(what + " of a new object", KnockBook::new, call, answer, -1);
    }

    /** Promise 2. */
    private static void tape() {
        refused("2: more than 600", RefusedTest::fullTape, x -> x.feed(0x23232323, 0, 0, 0, 0), -1, -1);
        KnockBook x = fullTape();
        CHECK.due("2: the 600 are there", 600, () -> x.count(7));
    }

    /** Promises 3 and 4. */
    private static void books() {
        refused("3: one more than there are", RefusedTest::rich, x -> x.book(21), ILLEGAL, -1);
        refused("3: far more", RefusedTest::rich, x -> x.book(MAX), ILLEGAL, -1);
        refused("3: 601 of 600", RefusedTest::fullTape, x -> x.book(601), ILLEGAL, -1);
        nothingChanges("3: below 0", x -> x.book(-1), ILLEGAL);
        nothingChanges("3: far below 0", x -> x.book(MIN), ILLEGAL);
        refused("3: one of an empty tape", KnockBook::new, x -> x.book(1), ILLEGAL, -1);
        String[] faults = {"^#", "thing p 1;oak k;^#", "thing ^sssssss 1;", "joins 1;thing ^x 1;", "glass ^ss;",
            "joins 0;thing s 5;felt s;^joins 1;", "thing s 1^", TEN.replace("pine k;", "") + "^thing ss 1;"};
        for (int i = 0; i < faults.length; i++) {
            fault(faults[i], new int[] {1, 1, 2, 3, 4, 5, 1, 2}[i]);
        }
    }

    /** Of a FAULT: its place, STATUS and the tape, which is empty; all else stays. */
    private static void fault(String marked, int fault) {
        int place = marked.indexOf('^');
        KnockBook called = told();
        CHECK.due("3: fault of " + marked, fault, () -> Check.tell(called, marked.replace("^", "")));
        CHECK.due("4: its place in " + marked, place, called::fault);
        List<String> want = Watch.all(told());
        want.set(0, "fault " + place);
        want.set(1 + 8, "count 8 is 1");
        sameLines("3: all stays behind " + marked, want, Watch.all(called));
    }

    /** As rich(), but without a FAULT and with an empty tape. */
    private static KnockBook told() {
        KnockBook x = Check.told(TEXT);
        x.worth(0, 6);
        x.hear(2, 6);
        x.image();
        x.take(Check.row("srp"), 1, 9);
        x.rain(1, true);
        x.hear(1, Check.row("kk"));
        return x;
    }

    private static int[] outside(int last) {
        return new int[] {-1, last + 1, MIN, MAX};
    }

    /** Promises 5, 6, 7, 9, 12, 25, 30, 33 and 34: another what. */
    private static void whats() {
        for (int what : outside(10)) {
            nothingChanges("5: count " + what, x -> x.count(what), NO_SUCH);
        }
        for (int what : outside(4)) {
            nothingChanges("6: word 0, " + what, x -> x.word(0, what), NO_SUCH);
            nothingChanges("7: door 0, " + what, x -> x.door(0, what), NO_SUCH);
        }
        for (int what : outside(1)) {
            nothingChanges("9: read, " + what, x -> x.read(6, what), NO_SUCH);
            nothingChanges("9: what ahead of the row, " + what, x -> x.read(5, what), NO_SUCH);
            nothingChanges("12: nearest, " + what, x -> x.nearest(6, what), NO_SUCH);
            nothingChanges("12: what ahead of the row, " + what, x -> x.nearest(5, what), NO_SUCH);
            nothingChanges("25: closest, " + what, x -> x.closest(what), NO_SUCH);
            nothingChanges("30: listen, " + what, x -> x.listen(what), NO_SUCH);
            nothingChanges("33: game, " + what, x -> x.game(0, 1, what), NO_SUCH);
            nothingChanges("33: what ahead of one door, " + what, x -> x.game(1, 1, what), NO_SUCH);
        }
        for (int what : outside(2)) {
            nothingChanges("34: frost, " + what, x -> x.frost(1, 1, what), NO_SUCH);
            nothingChanges("34: what ahead of n, " + what, x -> x.frost(1, 61, what), NO_SUCH);
        }
    }

    /** No such WORD: promises 6, 14, 15, 16 and 24. An ACT that throws is not counted as refused. */
    private static void words() {
        for (int word : outside(3)) {
            nothingChanges("6: word " + word, x -> x.word(word, 0), NO_SUCH);
            nothingChanges("14: die " + word, x -> x.die(word), NO_SUCH);
            nothingChanges("15: worth " + word, x -> x.worth(word, 1), NO_SUCH);
            nothingChanges("15: no word, no worth " + word, x -> x.worth(word, 100), NO_SUCH);
            nothingChanges("16: part " + word, x -> x.part(word, 1), NO_SUCH);
            nothingChanges("16: no word, no part " + word, x -> x.part(word, 3), NO_SUCH);
            nothingChanges("24: span " + word, x -> x.span(word, 0), NO_SUCH);
            nothingChanges("24: span 0, " + word, x -> x.span(0, word), NO_SUCH);
        }
    }

    /** No such DOOR: promises 7, 8, 17, 28, 32 and 33. */
    private static void doors() {
        for (int door : outside(3)) {
            nothingChanges("7: door " + door, x -> x.door(door, 0), NO_SUCH);
            nothingChanges("8: hears " + door, x -> x.hears(door, 1), NO_SUCH);
            nothingChanges("8: the door ahead of the row " + door, x -> x.hears(door, 5), NO_SUCH);
            nothingChanges("17: rain " + door, x -> x.rain(door, true), NO_SUCH);
            nothingChanges("17: no rain " + door, x -> x.rain(door, false), NO_SUCH);
            nothingChanges("28: hear " + door, x -> x.hear(door, 1), NO_SUCH);
            nothingChanges("28: the door ahead of the row " + door, x -> x.hear(door, 5), NO_SUCH);
            refused("28: the door ahead of the 8 " + door, RefusedTest::fullOfHeard, x -> x.hear(door, 1), NO_SUCH, -1);
            nothingChanges("32: telegraph " + door, x -> x.telegraph(door, 0), NO_SUCH);
            nothingChanges("32: telegraph 0, " + door, x -> x.telegraph(0, door), NO_SUCH);
            nothingChanges("33: game " + door, x -> x.game(door, 0, 0), NO_SUCH);
            nothingChanges("33: game 0, " + door, x -> x.game(0, door, 0), NO_SUCH);
            nothingChanges("33: the door ahead of both are one " + door, x -> x.game(door, door, 0), NO_SUCH);
        }
    }

    /** No ROW: promises 8 to 12 and 19. */
    private static void rows() {
        for (int row : new int[] {-1, 5, 244140625, MIN, MAX}) {
            refused("8: hears " + row, RefusedTest::rich, x -> x.hears(3, row), ILLEGAL, -1);
            nothingChanges("9: read " + row, x -> x.read(row, 1), ILLEGAL);
            nothingChanges("10: reading " + row, x -> x.reading(row, 0), ILLEGAL);
            nothingChanges("10: the row ahead of i " + row, x -> x.reading(row, -1), ILLEGAL);
            nothingChanges("11: apart " + row, x -> x.apart(row, 1), ILLEGAL);
            nothingChanges("11: apart 1, " + row, x -> x.apart(1, row), ILLEGAL);
            nothingChanges("12: nearest " + row, x -> x.nearest(row, 0), ILLEGAL);
            nothingChanges("19: mend " + row, x -> x.mend(row), ILLEGAL);
        }
        nothingChanges("10: a row that can't be read", x -> x.reading(4, 0), NO_SUCH);
        nothingChanges("10: no sounds", x -> x.reading(0, 0), NO_SUCH);
        refused("10: below 0", RefusedTest::rich, x -> x.reading(6, -1), NO_SUCH, -1);
        refused("10: behind the last one", RefusedTest::rich, x -> x.reading(6, 1), NO_SUCH, -1);
    }

    /** Promises 23, 26, 27, 33 and 34. */
    private static void numbers() {
        for (int bits : outside(15)) {
            nothingChanges("23: doors " + bits, x -> x.newWord(bits), ILLEGAL);
        }
        for (int sounds : outside(12)) {
            nothingChanges("26: said " + sounds, x -> x.said(sounds), ILLEGAL);
            nothingChanges("27: how many " + sounds, x -> x.howMany(sounds), ILLEGAL);
        }
        nothingChanges("27: how many 0", x -> x.howMany(0), ILLEGAL);
        for (int n : outside(60)) {
            nothingChanges("34: frost " + n, x -> x.frost(1, n, 0), ILLEGAL);
        }
        for (int door = 0; door < 4; door++) {
            int d = door;
            refused("33: both are " + d, RefusedTest::rich, x -> x.game(d, d, 0), ILLEGAL, -1);
        }
    }

    /** Promises 13, 15, 16 and 17: STATUS 1 is one more, and that is all. */
    private static void acts() {
        int free = Check.row("ss");
        List<int[]> taken = new ArrayList<>();
        for (int row : new int[] {0, -1, 5, 30, Check.row("kkkkkkk"), 244140624, 244140625, MIN, MAX, Check.row("kk")}) {
            taken.add(new int[] {row, 0, 0});
        }
        for (int part : outside(2)) {
            taken.add(new int[] {free, part, 0});
        }
        for (int worth : outside(99)) {
            taken.add(new int[] {free, 0, worth});
        }
        for (int[] t : taken) {
            String what = "13: take " + t[0] + ", " + t[1] + ", " + t[2];
            refused(what, RefusedTest::rich, x -> x.take(t[0], t[1], t[2]), -1, 1);
        }
        refused("13: an 11th", RefusedTest::fullOfActs, x -> x.take(free, 0, 0), -1, 1);
        for (int worth : outside(99)) {
            refused("15: worth " + worth, RefusedTest::rich, x -> x.worth(3, worth), -1, 1);
            refused("15: worth with 40 acts " + worth, RefusedTest::fullOfActs, x -> x.worth(9, worth), -1, 1);
        }
        for (int part : outside(2)) {
            refused("16: part " + part, RefusedTest::rich, x -> x.part(3, part), -1, 1);
            refused("16: part with 40 acts " + part, RefusedTest::fullOfActs, x -> x.part(9, part), -1, 1);
        }
        refused("17: wet already", RefusedTest::rich, x -> x.rain(1, true), false, 1);
        refused("17: dry already", RefusedTest::rich, x -> x.rain(0, false), false, 1);
        refused("17: dry already, with 40 acts", RefusedTest::fullOfActs, x -> x.rain(0, false), false, 1);
    }

    /** Promise 28: STATUS 2 is one more, and that is all. */
    private static void heard() {
        for (int row : new int[] {-1, 5, 244140625, MIN, MAX}) {
            refused("28: no row " + row, RefusedTest::rich, x -> x.hear(3, row), -1, 2);
            refused("28: a 9th, no row " + row, RefusedTest::fullOfHeard, x -> x.hear(3, row), -1, 2);
        }
        refused("28: a 9th", RefusedTest::fullOfHeard, x -> x.hear(3, 1), -1, 2);
        refused("28: a 9th, nothing", RefusedTest::fullOfHeard, x -> x.hear(0, 0), -1, 2);
    }

    /** Promises 18 and 36: nothing is there, nothing changes, nothing is counted. */
    private static void undoAndRestore() {
        refused("18: of a new object", KnockBook::new, x -> x.undo(), -1, -1);
        refused("18: of a new book", () -> Check.told(TEXT), x -> x.undo(), -1, -1);
        refused("18: all is undone", RefusedTest::undone, x -> x.undo(), -1, -1);
        refused("36: of a new object", KnockBook::new, x -> x.restore(), false, -1);
        refused("36: of a new book", RefusedTest::imageGone, x -> x.restore(), false, -1);
    }

    private static KnockBook undone() {
        KnockBook x = fullOfActs();
        x.worth(0, 77);
        for (int i = 0; i < 40; i++) {
            x.undo();
        }
        return x;
    }

    private static KnockBook imageGone() {
        KnockBook x = rich();
        x.book(x.count(7));
        x.take(1, 1, 1);
        x.rain(0, true);
        x.hear(0, 1);
        return x;
    }

    /** What only asks leaves all as it was. */
    private static void answersChangeNothing() {
        Call[] asked = {
            x -> x.fault(), x -> x.count(5), x -> x.word(0, 4), x -> x.door(1, 4), x -> x.hears(1, 163), x -> x.read(163, 0),
            x -> x.reading(6, 0), x -> x.apart(6, 163), x -> x.nearest(163, 1), x -> x.mend(244140624), x -> x.twoWays(),
            x -> x.prefixes(), x -> x.tellApart(), x -> x.newWord(15), x -> x.span(0, 3), x -> x.closest(1), x -> x.said(12),
            x -> x.howMany(12), x -> x.which(), x -> x.listen(1), x -> x.telegraph(0, 1), x -> x.game(0, 1, 0),
            x -> x.frost(9, 60, 0)};
        for (int i = 0; i < asked.length; i++) {
            Call call = asked[i];
            refused("asked " + i, RefusedTest::rich, call, call.on(rich()), -1);
        }
    }
}
