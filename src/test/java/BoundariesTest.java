import java.util.concurrent.Callable;

/**
 * Each sentence of the document that names a boundary case, but for those of a TEXT (TextBoundariesTest): the last
 * value that is still allowed, the first that no longer is. The state behind a refused call: RefusedTest.
 */
public final class BoundariesTest {
    private static final Check CHECK = new Check();
    private static final int MIN = Integer.MIN_VALUE;
    private static final int MAX = Integer.MAX_VALUE;
    private static final String NINE = "thing k 0;thing p 1;thing r 2;thing s 3;thing kk 4;"
        + "deed kp 5;deed kr 6;deed ks 7;deed pk 8;";
    private static final String TEN = NINE + "prayer pp 99;";
    private static final String SIX = "pine kprs;oak p;felt r;glass s;pine kprs;pine kprs;";
    /** Twelve SOUNDS: the greatest ROW, and the least of so many. */
    private static final int SLIDES = 244140624;
    private static final int KNUCKLES = 61035156;

    private interface Asked {
        Object of(KnockBook book, int number);
    }

    private interface Made {
        KnockBook book();
    }

    private BoundariesTest() {
    }

    public static void main(String[] args) {
        calls();
        rowNumbers();
        whats();
        wordNumbers();
        doorNumbers();
        tape();
        book();
        counts();
        wordAndDoor();
        hears();
        read();
        reading();
        apart();
        nearest();
        take();
        die();
        worthAndPart();
        rain();
        acts();
        undo();
        mend();
        twoWays();
        prefixes();
        tellApart();
        newWord();
        closest();
        said();
        howMany();
        hear();
        listen();
        telegraph();
        game();
        frost();
        image();
        CHECK.end();
    }

    private static int row(String sounds) {
        return Check.row(sounds);
    }

    /** ROWS of six SOUNDS, none of them alike up to 63. */
    private static int sixSounds(int i) {
        return row("sss" + "kprs".charAt(i / 16) + "kprs".charAt(i / 4 % 4) + "kprs".charAt(i % 4));
    }

    private static int base5(String digits) {
        return Integer.parseInt(digits, 5);
    }

    /** Answers for each number from the first to the last, throws for those beside them. */
    private static void range(String what, int first, int last, String thrown, Made made, Asked asked) {
        for (int n = first; n <= last; n++) {
            answers(what, n, made, asked);
        }
        for (int n : new int[] {first - 1, last + 1, MIN, MAX}) {
            CHECK.due(what + " " + n, "throws." + thrown, () -> asked.of(made.book(), n));
        }
    }

    private static void answers(String what, int n, Made made, Asked asked) {
        Callable<Object> call = () -> asked.of(made.book(), n);
        CHECK.due(what + " " + n + " answers", false, () -> Check.answer(call).startsWith("throws."));
    }

    private static void missing(String what, int first, int last, Made made, Asked asked) {
        range(what, first, last, "NoSuchElementException", made, asked);
    }

    private static void illegal(String what, int first, int last, Made made, Asked asked) {
        range(what, first, last, "IllegalArgumentException", made, asked);
    }

    private static KnockBook full() {
        return Check.told(TEN + SIX);
    }

    /** "An object is used for at most 512 calls after it has been made": the 512th is answered like the first one. */
    private static void calls() {
        KnockBook x = new KnockBook();
        for (int i = 0; i < 255; i++) {
            x.take(1, 0, 1);
            x.die(0);
        }
        CHECK.due("the 511th call", 40, () -> x.count(5));
        CHECK.due("the 512th call", 39, x::undo);
        KnockBook y = new KnockBook();
        for (int i = 0; i < 511; i++) {
            y.take(0, 0, 0);
        }
        CHECK.due("511 refused calls", 511, () -> y.count(9));
    }

    /** "A ROW is 0 to 12 SOUNDS", "numbers with a 0 among the digits .., or with more than 12 digits, are no ROWS". */
    private static void rowNumbers() {
        int[] rows = {0, 1, 4, 6, 24, 31, 124, 12207031, 48828124, KNUCKLES, SLIDES - 1, SLIDES, base5("144444444444")};
        int[] none = {-1, -6, MIN, MAX, 5, 10, 20, 25, 26, 30, 120, base5("100000000000"), base5("111111111110"),
            base5("444444444440"), base5("101111111111"), base5("404444444444"), base5("444444444404"),
            base5("111110111111"), SLIDES + 1, base5("1000000000001"), base5("1111111111111"), base5("1444444444444")};
        Asked[] asked = {
            (x, n) -> x.hears(0, n), (x, n) -> x.read(n, 0), (x, n) -> x.read(n, 1), (x, n) -> x.apart(n, 0),
            (x, n) -> x.apart(0, n), (x, n) -> x.nearest(n, 0), (x, n) -> x.nearest(n, 1), (x, n) -> x.mend(n)};
        for (int i = 0; i < asked.length; i++) {
            for (int n : rows) {
                answers("a row asked " + i, n, BoundariesTest::full, asked[i]);
            }
            for (int n : none) {
                Asked a = asked[i];
                CHECK.illegal("no row asked " + i + ": " + n, () -> a.of(full(), n));
            }
        }
        for (int n : rows) {
            CHECK.due("28: a row " + n, 1, () -> full().hear(0, n));
            CHECK.due("8: pine hears all of " + n, n, () -> full().hears(0, n));
            CHECK.due("11: how many sounds " + n, Model.text(n).length(), () -> full().apart(n, 0));
        }
        for (int n : none) {
            CHECK.due("28: no row " + n, -1, () -> full().hear(0, n));
            CHECK.illegal("10: no row " + n, () -> full().reading(n, 0));
            CHECK.due("13: no row " + n, -1, () -> Check.told(SIX).take(n, 0, 0));
        }
    }

    /** "NoSuchElementException: another what", of all that have one. */
    private static void whats() {
        missing("5: count", 0, 10, BoundariesTest::full, (x, n) -> x.count(n));
        missing("6: word", 0, 4, BoundariesTest::full, (x, n) -> x.word(9, n));
        missing("7: door", 0, 4, BoundariesTest::full, (x, n) -> x.door(5, n));
        missing("9: read", 0, 1, BoundariesTest::full, (x, n) -> x.read(0, n));
        missing("12: nearest", 0, 1, BoundariesTest::full, (x, n) -> x.nearest(0, n));
        missing("25: closest", 0, 1, BoundariesTest::full, (x, n) -> x.closest(n));
        missing("30: listen", 0, 1, BoundariesTest::full, (x, n) -> x.listen(n));
        missing("33: game", 0, 1, BoundariesTest::full, (x, n) -> x.game(0, 5, n));
        missing("34: frost", 0, 2, BoundariesTest::full, (x, n) -> x.frost(0, 60, n));
        missing("5: count of a new object", 0, 10, KnockBook::new, (x, n) -> x.count(n));
        missing("25: closest of a new object", 0, 1, KnockBook::new, (x, n) -> x.closest(n));
        missing("30: listen of a new object", 0, 1, KnockBook::new, (x, n) -> x.listen(n));
        missing("34: frost of a new object", 0, 2, KnockBook::new, (x, n) -> x.frost(0, 60, n));
        missing("9: read of a new object", 0, 1, KnockBook::new, (x, n) -> x.read(0, n));
        missing("12: nearest of a new object", 0, 1, KnockBook::new, (x, n) -> x.nearest(0, n));
    }

    /** "no such WORD (as everywhere)": of none, of one, of ten. */
    private static void wordNumbers() {
        Asked[] asked = {
            (x, n) -> x.word(n, 0), (x, n) -> x.die(n), (x, n) -> x.worth(n, 99), (x, n) -> x.part(n, 2),
            (x, n) -> x.span(n, 0), (x, n) -> x.span(0, n)};
        for (int i = 0; i < asked.length; i++) {
            missing("of ten words " + i, 0, 9, BoundariesTest::full, asked[i]);
            missing("of one word " + i, 0, 0, () -> Check.told("thing k 1;"), asked[i]);
            Asked a = asked[i];
            CHECK.missing("of no words " + i, () -> a.of(Check.told(SIX), 0));
        }
        KnockBook x = full();
        x.die(9);
        CHECK.missing("9 died out", () -> x.word(9, 0));
        x.undo();
        CHECK.due("9 is back", 12, () -> x.word(9, 0));
    }

    /** "no such DOOR (as everywhere)": of none, of two, of six. */
    private static void doorNumbers() {
        Asked[] asked = {
            (x, n) -> x.door(n, 0), (x, n) -> x.hears(n, 0), (x, n) -> x.rain(n, true), (x, n) -> x.rain(n, false),
            (x, n) -> x.hear(n, 0), (x, n) -> x.hear(n, 5), (x, n) -> x.telegraph(n, 0), (x, n) -> x.telegraph(0, n)};
        for (int i = 0; i < asked.length; i++) {
            missing("of six doors " + i, 0, 5, BoundariesTest::full, asked[i]);
            missing("of two doors " + i, 0, 1, () -> Check.told("pine k;oak k;"), asked[i]);
            Asked a = asked[i];
            CHECK.missing("of no doors " + i, () -> a.of(Check.told(TEN), 0));
        }
        missing("33: the second of six", 1, 5, () -> Check.told(SIX), (x, n) -> n == 0 ? x.game(0, 6, 0) : x.game(0, n, 0));
        missing("33: the first of six", 0, 4, () -> Check.told(SIX), (x, n) -> n == 5 ? x.game(6, 5, 0) : x.game(n, 5, 0));
        CHECK.missing("33: no doors", () -> new KnockBook().game(0, 1, 0));
        CHECK.missing("33: no doors, both one", () -> new KnockBook().game(0, 0, 0));
        CHECK.missing("33: one door, no other", () -> Check.told("pine k;").game(0, 1, 0));
    }

    /** Promise 2: "NONE, and none come, if it would have more than 600". */
    private static void tape() {
        KnockBook x = new KnockBook();
        for (int n = 20; n <= 580; n += 20) {
            x.feed(0x20202020, 0x20202020, 0x20202020, 0x20202020, 0x20202020);
        }
        CHECK.due("2: 580", 580, () -> x.count(7));
        // twelve blanks, "oak ", "kpr;"
        CHECK.due("2: 600", 600, () -> x.feed(0x20202020, 0x20202020, 0x20202020, 0x6f616b20, 0x6b70723b));
        CHECK.due("2: 620 is too much", -1, () -> x.feed(0x3b3b3b3b, 0x3b3b3b3b, 0x3b3b3b3b, 0x3b3b3b3b, 0x3b3b3b3b));
        CHECK.due("2: still too much", -1, () -> x.feed(0, 0, 0, 0, 0));
        CHECK.due("2: none came", 600, () -> x.count(7));
        CHECK.due("2: the last twenty are as they were", 0, () -> x.book(600));
        CHECK.due("2: an oak door", 7, () -> x.door(0, 1));
        CHECK.due("2: empty, and it takes again", 20, () -> x.feed(0, 0, 0, 0, 0));
        KnockBook y = new KnockBook();
        // bytes of the greatest and the least numbers
        CHECK.due("2: any numbers", 20, () -> y.feed(-1, MIN, MAX, 0, 0x0a0a0a0a));
        CHECK.due("2: 255 is no token", 1, () -> y.book(20));
        CHECK.due("2: at the first byte", 0, y::fault);
    }

    /** Promise 3: "the tape has not so many, n below 0". */
    private static void book() {
        Made fed = () -> {
            KnockBook x = new KnockBook();
            x.feed(0x20202020, 0x20202020, 0x20202020, 0x20202020, 0x20202020);
            return x;
        };
        illegal("3: of twenty bytes", 0, 20, fed, (x, n) -> x.book(n));
        illegal("3: of an empty tape", 0, 0, KnockBook::new, (x, n) -> x.book(n));
        CHECK.due("4: a new object has no fault", -1, () -> new KnockBook().fault());
        KnockBook x = new KnockBook();
        CHECK.due("3: a fault at the first byte", 1, () -> Check.tell(x, "#"));
        CHECK.due("4: which is 0, not none", 0, x::fault);
        CHECK.due("3: the tape is empty behind a fault", 0, () -> x.count(7));
        CHECK.due("3: no bytes are no fault", 0, () -> x.book(0));
        CHECK.due("4: none now", -1, x::fault);
        for (int n = 1; n <= 3; n++) {
            Check.tell(x, "thing");
        }
        CHECK.due("3: each fault is counted", 4, () -> x.count(8));
        CHECK.due("4: the latest one's place", 5, x::fault);
        CHECK.illegal("3: no such tape", () -> x.book(1));
        CHECK.due("4: it stays the latest one's", 5, x::fault);
        CHECK.due("3: that is no text with a fault", 4, () -> x.count(8));
    }

    /** Promise 5: the least and the most of each. */
    private static void counts() {
        KnockBook none = new KnockBook();
        for (int what = 0; what <= 10; what++) {
            int w = what;
            CHECK.due("5: of a new object " + w, 0, () -> none.count(w));
        }
        KnockBook x = Check.told(SIX);
        for (int i = 0; i < 10; i++) {
            x.take(sixSounds(i), 2, 99);
        }
        for (int door = 0; door < 6; door++) {
            x.rain(door, true);
        }
        for (int i = 0; i < 30; i++) {
            x.worth(0, 99);
            x.hear(5, i);
            x.feed(0, 0, 0, 0, 0);
        }
        int[] due = {10, 6, 63, 990, 60, 40, 8, 600, 0, 0, 22};
        for (int what = 0; what <= 10; what++) {
            int w = what;
            CHECK.due("5: the most " + w, due[w], () -> x.count(w));
        }
    }

    /** Promises 6 and 7: bits of the first and the last DOOR and WORD; the most couples. */
    private static void wordAndDoor() {
        KnockBook x = full();
        CHECK.due("6: k, by three pines", 49, () -> x.word(0, 4));
        CHECK.due("6: pp, by oak too", 51, () -> x.word(9, 4));
        CHECK.due("7: ten words", 1023, () -> x.door(5, 3));
        CHECK.due("7: p and pp", 514, () -> x.door(1, 3));
        KnockBook y = Check.told("thing k 1;thing kp 1;thing pk 1;thing ppk 1;thing kpp 1;thing pkp 1;thing kppp 1;"
            + "thing pkpp 1;thing ppkp 1;thing pppk 1;felt k;pine k;");
        CHECK.due("7: felt confounds all ten", 45, () -> y.door(0, 4));
        CHECK.due("7: pine confounds none", 0, () -> y.door(1, 4));
        y.rain(0, true);
        CHECK.due("7: wet felt too", 45, () -> y.door(0, 4));
        CHECK.due("7: one word, no couple", 0, () -> Check.told("thing k 1;felt k;").door(0, 4));
        CHECK.due("7: no words, no couple", 0, () -> Check.told("felt k;").door(0, 4));
        CHECK.due("6: the first door can't", 2, () -> Check.told("thing k 1;pine prs;pine k;pine s;").word(0, 4));
        CHECK.due("7: the first word it can't", 2, () -> Check.told("thing k 1;thing p 1;thing pk 1;pine prs;").door(0, 3));
        CHECK.due("6: no doors", 0, () -> Check.told("thing k 1;").word(0, 4));
        CHECK.due("7: no words", 0, () -> Check.told("felt k;").door(0, 3));
        CHECK.due("7: oak confounds k and p: it hears nothing", 1, () -> Check.told("thing k 1;thing p 1;oak k;").door(0, 4));
    }

    /** Promise 8: "if it is WET, a knuckle more at the end (if there are no more than 11 SOUNDS then)". */
    private static void hears() {
        String[] rows = {"", "k", "p", "r", "s", "pp", "ppppppppppp", "pppppppppppp", "rrrrrrrrrrr", "rrrrrrrrrrrr",
            "sssssssssss", "ssssssssssss", "psssssssssss", "kprskprskprs"};
        String[] dryOak = {"", "", "", "", "", "p", "pppppppppp", "ppppppppppp", "rrrrrrrrrr", "rrrrrrrrrrr",
            "ssssssssss", "sssssssssss", "pssssssssss", "kprskprskpr"};
        String[] dryFelt = {"", "k", "", "r", "s", "", "", "", "rrrrrrrrrrr", "rrrrrrrrrrrr",
            "sssssssssss", "ssssssssssss", "sssssssssss", "krskrskrs"};
        String[] dryGlass = {"", "k", "p", "k", "s", "pp", "ppppppppppp", "pppppppppppp", "kkkkkkkkkkk", "kkkkkkkkkkkk",
            "sssssssssss", "ssssssssssss", "psssssssssss", "kpkskpkskpks"};
        KnockBook x = Check.told("pine k;oak k;felt k;glass k;");
        for (int wet = 0; wet < 2; wet++) {
            for (int i = 0; i < rows.length; i++) {
                String[] dry = {rows[i], dryOak[i], dryFelt[i], dryGlass[i]};
                for (int door = 0; door < 4; door++) {
                    int d = door;
                    int r = row(rows[i]);
                    String due = dry[d] + (wet == 1 && dry[d].length() <= 11 ? "k" : "");
                    CHECK.due("8: door " + d + ", " + wet + ", " + rows[i], row(due), () -> x.hears(d, r));
                }
            }
            for (int door = 0; door < 4; door++) {
                x.rain(door, true);
            }
        }
    }

    /** Promise 9: "one or more", "the first one always may", "something else than 0". */
    private static void read() {
        KnockBook none = new KnockBook();
        CHECK.due("9: no words, no sounds", 0, () -> none.read(0, 0));
        CHECK.due("9: no words", 0, () -> none.read(SLIDES, 1));
        KnockBook k = Check.told("thing k 1;");
        CHECK.due("9: nothing is no words", 0, () -> k.read(0, 0));
        CHECK.due("9: nothing, by none", 0, () -> k.read(0, 1));
        CHECK.due("9: one", 1, () -> k.read(1, 1));
        CHECK.due("9: twelve", 12, () -> k.read(KNUCKLES, 1));
        CHECK.due("9: twelve in one way", 1, () -> k.read(KNUCKLES, 0));
        KnockBook six = Check.told("thing k 1;thing kk 1;thing kkk 1;thing kkkk 1;thing kkkkk 1;thing kkkkkk 1;");
        CHECK.due("9: the most ways", 1936, () -> six.read(KNUCKLES, 0));
        CHECK.due("9: by two", 2, () -> six.read(KNUCKLES, 1));
        CHECK.due("9: six by one", 1, () -> six.read(row("kkkkkk"), 1));
        CHECK.due("9: seven by two", 2, () -> six.read(row("kkkkkkk"), 1));
        KnockBook zero = Check.told("thing k 1;thing kk 1;joins 0;");
        CHECK.due("9: the first one always may", 1, () -> zero.read(1, 0));
        CHECK.due("9: no second one may", 1, () -> zero.read(6, 0));
        CHECK.due("9: none of three", 0, () -> zero.read(31, 0));
        CHECK.due("9: below 0 is something else than 0", 3, () -> Check.told("thing k 1;thing kk 1;joins 0-1;").read(31, 0));
        CHECK.due("9: a word longer than the row", 0, () -> Check.told("thing kkkkkk 1;").read(row("kkkkk"), 0));
        KnockBook slides = Check.told("thing k 1;thing s 1;");
        for (int n = 1; n <= 11; n++) {
            int row = row("k" + "s".repeat(n));
            int due = n + 1;
            CHECK.due("9: k and slides " + n, due, () -> slides.read(row, 1));
            CHECK.due("9: k and slides, in one way " + n, 1, () -> slides.read(row, 0));
        }
        CHECK.due("9: ten words: k k, kk", 2, () -> full().read(row("kk"), 0));
        CHECK.due("9: ten words: s k", 2, () -> full().read(row("sk"), 1));
        CHECK.due("9: ten words: the last one begins within another", 0, () -> Check.told("thing kk 1;thing ss 1;thing rr 1;"
            + "thing sss 1;thing rrr 1;thing ssss 1;thing rrrr 1;thing sr 1;thing rs 1;thing kp 1;").read(row("kkp"), 0));
        CHECK.due("9: the last sound is another", 0, () -> k.read(KNUCKLES + 1, 0));
        CHECK.due("9: the first sound is another", 0, () -> k.read(base5("211111111111"), 0));
    }

    /** Promise 10: "NoSuchElementException (behind that): there is none". */
    private static void reading() {
        KnockBook k = Check.told("thing p 1;thing k 1;");
        for (int i = 0; i < 12; i++) {
            int n = i;
            CHECK.due("10: of twelve " + i, 1, () -> k.reading(KNUCKLES, n));
        }
        for (int i : new int[] {-1, 12, MIN, MAX}) {
            CHECK.missing("10: not of twelve " + i, () -> k.reading(KNUCKLES, i));
        }
        CHECK.due("10: the only one", 1, () -> k.reading(1, 0));
        CHECK.missing("10: behind the only one", () -> k.reading(1, 1));
        CHECK.missing("10: ahead of the only one", () -> k.reading(1, -1));
        CHECK.missing("10: nothing", () -> k.reading(0, 0));
        CHECK.missing("10: can't be read", () -> k.reading(3, 0));
        CHECK.missing("10: no words", () -> new KnockBook().reading(1, 0));
        KnockBook x = Check.told("thing kk 1;thing kkk 1;thing k 1;");
        CHECK.due("10: kkkk is kk kk, not k kkk", 0, () -> x.reading(row("kkkk"), 0));
        CHECK.due("10: kkkkk is kk kkk", 1, () -> x.reading(row("kkkkk"), 1));
        x.take(row("kkkk"), 0, 0);
        CHECK.due("10: kkkkk by kk, still the first", 0, () -> x.reading(row("kkkkk"), 0));
        CHECK.due("10: kkkk by one now", 3, () -> x.reading(row("kkkk"), 0));
    }

    /** Promise 11: from 0 to 12. */
    private static void apart() {
        KnockBook x = new KnockBook();
        CHECK.due("11: none of none", 0, () -> x.apart(0, 0));
        CHECK.due("11: one of none", 1, () -> x.apart(4, 0));
        CHECK.due("11: none of one", 1, () -> x.apart(0, 4));
        CHECK.due("11: twelve of none", 12, () -> x.apart(SLIDES, 0));
        CHECK.due("11: none of twelve", 12, () -> x.apart(0, SLIDES));
        CHECK.due("11: twelve of twelve", 12, () -> x.apart(SLIDES, KNUCKLES));
        CHECK.due("11: alike", 0, () -> x.apart(KNUCKLES, KNUCKLES));
        CHECK.due("11: the first one is another", 1, () -> x.apart(base5("211111111111"), KNUCKLES));
        CHECK.due("11: the last one is another", 1, () -> x.apart(KNUCKLES + 1, KNUCKLES));
        CHECK.due("11: the first one is lost", 1, () -> x.apart(base5("211111111111"), base5("11111111111")));
        CHECK.illegal("11: both are none", () -> x.apart(5, 5));
    }

    /** Promise 12: "NONE: there are none", "of like ones the least". */
    private static void nearest() {
        CHECK.due("12: there are none", -1, () -> Check.told(SIX).nearest(0, 0));
        CHECK.due("12: none, how far", -1, () -> Check.told(SIX).nearest(SLIDES, 1));
        CHECK.due("12: one is always it", 0, () -> Check.told("thing k 1;").nearest(SLIDES, 0));
        CHECK.due("12: however far", 12, () -> Check.told("thing k 1;").nearest(SLIDES, 1));
        CHECK.due("12: the last of ten", 9, () -> full().nearest(row("pp"), 0));
        CHECK.due("12: of like ones the first of ten", 0, () -> full().nearest(0, 0));
        CHECK.due("12: the first, though another is as near", 0, () -> Check.told("thing kp 1;thing kr 1;").nearest(row("ks"), 0));
        CHECK.due("12: the other, though it is last", 1, () -> Check.told("thing kp 1;thing kr 1;").nearest(row("skr"), 0));
        CHECK.due("12: longer ones too", 1, () -> Check.told("thing kkkkkk 1;thing ppp 1;").nearest(0, 0));
        KnockBook x = Check.told("thing k 1;");
        x.die(0);
        CHECK.due("12: none any more", -1, () -> x.nearest(1, 0));
    }

    /** Promise 13: "there are 10, no ROW of 1 to 6 SOUNDS, it is a WORD already, no such PART, WORTH". */
    private static void take() {
        int free = row("ss");
        Asked[] allowed = {(x, n) -> x.take(n, 0, 0), (x, n) -> x.take(free, n, 0), (x, n) -> x.take(free, 0, n)};
        int[][] last = {{row("ssssss"), free, row("rrrrrr"), row("kkr")}, {0, 1, 2}, {0, 1, 98, 99}};
        int[][] first = {{0, row("kkkkkkk"), row("sssssss"), KNUCKLES, SLIDES, SLIDES + 1, 5, 30, -1, MIN, MAX, 1, row("pk")},
            {-1, 3, MIN, MAX}, {-1, 100, MIN, MAX}};
        for (int i = 0; i < 3; i++) {
            Asked take = allowed[i];
            for (int n : last[i]) {
                CHECK.due("13: allowed " + i + ": " + n, 9, () -> take.of(Check.told(NINE), n));
                CHECK.due("13: an 11th " + i + ": " + n, -1, () -> take.of(Check.told(TEN), n));
            }
            for (int n : first[i]) {
                CHECK.due("13: refused " + i + ": " + n, -1, () -> take.of(Check.told(NINE), n));
            }
        }
        KnockBook x = new KnockBook();
        CHECK.due("13: the first one", 0, () -> x.take(1, 0, 0));
        CHECK.due("13: it is one already", -1, () -> x.take(1, 2, 99));
        x.die(0);
        CHECK.due("13: it is one no more", 0, () -> x.take(1, 2, 99));
        x.undo();
        x.undo();
        CHECK.due("13: it is one again", -1, () -> x.take(1, 2, 99));
        for (int i = 1; i < 10; i++) {
            int n = i;
            CHECK.due("13: its number " + i, i, () -> x.take(sixSounds(n), n % 3, n));
        }
        CHECK.due("13: an 11th", -1, () -> x.take(sixSounds(10), 0, 0));
    }

    /** Promise 14: the first, the last, the only one. */
    private static void die() {
        KnockBook x = full();
        for (int word = 9; word >= 0; word--) {
            int w = word;
            CHECK.missing("14: behind the last " + w, () -> x.die(w + 1));
            int row = x.word(w, 0);
            CHECK.due("14: the last " + w, row, () -> x.die(w));
            CHECK.due("14: left " + w, w, () -> x.count(0));
        }
        CHECK.missing("14: none is left", () -> x.die(0));
        KnockBook y = full();
        y.die(0);
        CHECK.due("14: behind it, the first", 2, () -> y.word(0, 0));
        CHECK.due("14: behind it, the last", 12, () -> y.word(8, 0));
        CHECK.due("14: its worth too", 99, () -> y.word(8, 3));
        CHECK.due("14: its part too", 2, () -> y.word(8, 2));
        KnockBook z = Check.told("thing k 1;thing pppppp 1;");
        z.die(0);
        CHECK.due("14: how many sounds it has", 6, () -> z.word(0, 1));
        CHECK.due("14: how many all have", 6, () -> z.count(4));
        CHECK.due("14: it can be read", 1, () -> z.read(row("pppppp"), 0));
        z.undo();
        CHECK.due("14: its own again", 1, () -> z.word(0, 1));
    }

    /** Promises 15 and 16: "not 0 to 99", "not 0 to 2". */
    private static void worthAndPart() {
        for (int n : new int[] {0, 1, 98, 99}) {
            KnockBook x = full();
            CHECK.due("15: worth " + n, 5, () -> x.worth(5, n));
            CHECK.due("15: it is " + n, n, () -> x.word(5, 3));
            CHECK.due("15: the part stays", 1, () -> x.word(5, 2));
        }
        for (int n : new int[] {0, 1, 2}) {
            KnockBook x = full();
            CHECK.due("16: part " + n, 2, () -> x.part(9, n));
            CHECK.due("16: it is " + n, n, () -> x.word(9, 2));
            CHECK.due("16: the worth stays", 99, () -> x.word(9, 3));
        }
        for (int n : new int[] {-1, 100, MIN, MAX}) {
            CHECK.due("15: no worth " + n, -1, () -> full().worth(0, n));
        }
        for (int n : new int[] {-1, 3, MIN, MAX}) {
            CHECK.due("16: no part " + n, -1, () -> full().part(0, n));
        }
    }

    /** Promise 17: "False (STATUS 1): it is so already", of the first and the last DOOR. */
    private static void rain() {
        for (int door : new int[] {0, 5}) {
            KnockBook x = full();
            CHECK.due("17: dry at first " + door, false, () -> x.rain(door, false));
            CHECK.due("17: wet " + door, true, () -> x.rain(door, true));
            CHECK.due("17: wet already " + door, false, () -> x.rain(door, true));
            CHECK.due("17: this one alone " + door, 1 << door, () -> x.count(2));
            CHECK.due("17: dry " + door, true, () -> x.rain(door, false));
            CHECK.due("17: dry already " + door, false, () -> x.rain(door, false));
            CHECK.due("17: three refused " + door, 3, () -> x.count(9));
            CHECK.due("17: two acts " + door, 2, () -> x.count(5));
        }
    }

    /** One ACT of each kind. */
    private static void act(KnockBook x, int kind, int i) {
        switch (kind) {
            case 0: x.take(sixSounds(i), 0, i); break;
            case 1: x.die(0); break;
            case 2: x.worth(0, i); break;
            case 3: x.part(0, i % 3); break;
            default: x.rain(i % 6, x.door(i % 6, 2) == 0); break;
        }
    }

    /** "ACTS (at most 40 are kept, the latest ones)": the 40th is kept; the 41st, of any kind, drives the first one out. */
    private static void acts() {
        for (int kind = 0; kind < 5; kind++) {
            KnockBook x = Check.told(NINE + SIX);
            x.worth(1, 77);
            for (int i = 0; i < 39; i++) {
                act(x, 4, i);
            }
            CHECK.due("40 are kept", 40, () -> x.count(5));
            act(x, kind, 40);
            CHECK.due("the 41st of kind " + kind, 40, () -> x.count(5));
            CHECK.due("which is undone first", 39, x::undo);
            int worth = x.count(3);
            for (int left = 38; left >= 0; left--) {
                CHECK.due("left of kind " + kind, left, x::undo);
            }
            CHECK.due("the first is no more", -1, x::undo);
            CHECK.due("all is dry", 0, () -> x.count(2));
            CHECK.due("but what the first one did stays", worth, () -> x.count(3));
            CHECK.due("which is", 77, () -> x.word(1, 3));
        }
        KnockBook y = Check.told(NINE + SIX);
        y.worth(1, 77);
        for (int i = 0; i < 39; i++) {
            act(y, 4, i);
        }
        for (int left = 39; left >= 0; left--) {
            CHECK.due("left of 40", left, y::undo);
        }
        CHECK.due("the first of 40 is undone", 1, () -> y.word(1, 3));
        CHECK.due("none is left", -1, y::undo);
    }

    /** Promise 18: each kind at the edges: of ten WORDS the first and the last one, the only one, the last DOOR. */
    private static void undo() {
        for (int word : new int[] {0, 4, 9}) {
            KnockBook x = full();
            int row = x.die(word);
            CHECK.due("18: died " + word, 0, x::undo);
            CHECK.due("18: back " + word, row, () -> x.word(word, 0));
            CHECK.due("18: ten again " + word, 10, () -> x.count(0));
            CHECK.due("18: worth of all " + word, 135, () -> x.count(3));
            CHECK.due("18: the last one stays last", 12, () -> x.word(9, 0));
        }
        KnockBook x = new KnockBook();
        x.take(1, 2, 9);
        x.die(0);
        x.undo();
        CHECK.due("18: the only one is back", 9, () -> x.word(0, 3));
        CHECK.due("18: none is left", 0, x::undo);
        CHECK.due("18: no word", 0, () -> x.count(0));
        CHECK.due("18: none", -1, x::undo);
        KnockBook y = full();
        y.rain(5, true);
        y.rain(5, false);
        CHECK.due("18: wet again", 1, y::undo);
        CHECK.due("18: the last door", 32, () -> y.count(2));
        CHECK.due("18: dry again", 0, y::undo);
        CHECK.due("18: no door", 0, () -> y.count(2));
        y.worth(9, 99);
        CHECK.due("18: the same worth is an act", 0, y::undo);
        y.part(9, 2);
        CHECK.due("18: the same part is an act", 0, y::undo);
        y.worth(9, 100);
        CHECK.due("18: what is refused is none", -1, y::undo);
    }

    /** Promise 19: "of any length", "NONE: no ROW can be READ". */
    private static void mend() {
        CHECK.due("19: no words", -1, () -> Check.told(SIX).mend(SLIDES));
        KnockBook six = Check.told("thing kkkkkk 1;");
        CHECK.due("19: nothing", 6, () -> six.mend(0));
        CHECK.due("19: one", 5, () -> six.mend(1));
        CHECK.due("19: nine is as far from six as from twelve", 3, () -> six.mend(row("kkkkkkkkk")));
        CHECK.due("19: twelve", 0, () -> six.mend(KNUCKLES));
        CHECK.due("19: twelve others", 12, () -> six.mend(SLIDES));
        KnockBook five = Check.told("thing kkkkk 1;joins 1;");
        CHECK.due("19: twelve, from ten", 2, () -> five.mend(KNUCKLES));
        KnockBook palm = Check.told("thing kkkkkk 1;deed p 1;joins left+right=1;");
        CHECK.due("19: 13 sounds: a palm between", 1, () -> palm.mend(KNUCKLES));
        KnockBook zero = Check.told("thing kk 1;joins 0;");
        CHECK.due("19: one word alone", 10, () -> zero.mend(KNUCKLES));
        KnockBook chain = Check.told("thing kkkkkk 0;thing k 1;thing p 2;thing r 3;thing s 4;thing ssssss 5;joins first+1=next;");
        CHECK.due("19: krsp krsp, k comes in", 1, () -> Check.told("thing krsp 1;").mend(row("krsprsp")));
        KnockBook ring = Check.told("thing krsrsp 0;thing k 1;thing p 2;joins next=first+1-first/2*3;");
        CHECK.due("19: krsrsp k p krsrsp, two whole words come in and k", 3, () -> ring.mend(row("krsrsprsrsp")));
        CHECK.due("19: 16 sounds: four words between", 4, () -> chain.mend(row("kkkkkkssssss")));
    }

    /** Promise 20: "it may have more than 12", "none". */
    private static void twoWays() {
        CHECK.due("20: none of none", -1, () -> new KnockBook().twoWays());
        CHECK.due("20: none of one", -1, () -> Check.told("thing k 1;").twoWays());
        CHECK.due("20: two, the least", 2, () -> Check.told("thing k 1;thing kk 1;").twoWays());
        CHECK.due("20: six by six ones", 6, () -> Check.told("thing k 1;thing kkkkkk 1;").twoWays());
        CHECK.due("20: eleven", 11, () -> Check.told("thing kkkkk 1;thing kkkkkk 1;").twoWays());
        CHECK.due("20: none, though one begins with another", -1, () -> Check.told("thing k 1;thing kp 1;").twoWays());
        CHECK.due("20: none, though one ends with another", -1, () -> Check.told("thing k 1;thing pk 1;").twoWays());
        CHECK.due("20: more than 12", 14, () -> Check.told("thing kp 1;thing kpr 1;thing rsssss 1;thing sssssp 1;"
            + "thing pkkkkk 1;thing kkkkk 1;").twoWays());
        CHECK.due("20: kp rsssss pkkkkk spprpp, kpr sssssp kkkkks pprpp", 20, () -> Check.told("thing kp 1;thing kpr 1;"
            + "thing rsssss 1;thing sssssp 1;thing pkkkkk 1;thing kkkkks 1;thing spprpp 1;thing pprpp 1;").twoWays());
        CHECK.due("20: kpkpr begins with kp twice, but r is no word", -1, () -> Check.told("thing kp 1;thing kpkpr 1;").twoWays());
        KnockBook x = Check.told("thing kk 1;thing kkk 1;thing kkkk 1;");
        CHECK.due("20: kkkk, kk kk", 4, x::twoWays);
        CHECK.due("20: asked again", 4, x::twoWays);
        x.die(2);
        CHECK.due("20: without kkkk", 5, x::twoWays);
        x.die(1);
        CHECK.due("20: kk alone", -1, x::twoWays);
        x.undo();
        CHECK.due("20: kkk is back", 5, x::twoWays);
        KnockBook y = Check.told("thing kp 1;thing kpr 1;thing r 1;");
        CHECK.due("20: kpr, kp r", 3, y::twoWays);
        y.die(2);
        CHECK.due("20: without r", -1, y::twoWays);
        CHECK.due("20: the rule isn't asked", 2, () -> Check.told("thing k 1;thing kk 1;joins 0;").twoWays());
    }

    /** Promise 21: none, and the most. */
    private static void prefixes() {
        CHECK.due("21: none", 0, () -> new KnockBook().prefixes());
        CHECK.due("21: one alone", 0, () -> Check.told("thing kkkkkk 1;").prefixes());
        CHECK.due("21: fifteen of six", 15,
            () -> Check.told("thing kkkkkk 1;thing kkkkk 1;thing kkkk 1;thing kkk 1;thing kk 1;thing k 1;").prefixes());
        CHECK.due("21: an end is no beginning", 0, () -> Check.told("thing k 1;thing pk 1;").prefixes());
        CHECK.due("21: all but the last sound", 0, () -> Check.told("thing kp 1;thing kr 1;").prefixes());
    }

    /** Promise 22: "none", "of as few the least as bits". */
    private static void tellApart() {
        CHECK.due("22: no words: no doors", 0, () -> Check.told(SIX).tellApart());
        CHECK.due("22: one word: no doors", 0, () -> Check.told("thing k 1;" + SIX).tellApart());
        CHECK.due("22: two words without doors", -1, () -> Check.told("thing k 1;thing p 1;").tellApart());
        CHECK.due("22: the last door alone", 32,
            () -> Check.told("thing k 1;thing p 1;oak k;oak k;oak k;oak k;oak k;pine k;").tellApart());
        CHECK.due("22: the least of six", 1, () -> Check.told(TEN + "pine k;pine k;pine k;pine k;pine k;pine k;").tellApart());
        CHECK.due("22: two of them, the least as bits", 3,
            () -> Check.told("thing k 1;thing r 1;thing kp 1;oak k;felt k;felt k;oak k;").tellApart());
        CHECK.due("22: none of all six: kk and kr", -1,
            () -> Check.told(TEN + "oak k;oak k;oak k;glass k;glass k;glass k;").tellApart());
        KnockBook x = Check.told("thing k 1;thing p 1;oak k;pine k;");
        CHECK.due("22: pine", 2, x::tellApart);
        x.die(0);
        CHECK.due("22: one is left", 0, x::tellApart);
    }

    /** Promise 23: "ROWS of 1 to 4 SOUNDS", "bits of DOORS that there aren't", "none". */
    private static void newWord() {
        illegal("23: of six doors", 0, 63, BoundariesTest::full, (x, n) -> x.newWord(n));
        illegal("23: of one door", 0, 1, () -> Check.told("pine k;"), (x, n) -> x.newWord(n));
        illegal("23: of no doors", 0, 0, KnockBook::new, (x, n) -> x.newWord(n));
        CHECK.due("23: one sound, the least", 1, () -> new KnockBook().newWord(0));
        CHECK.due("23: the last of one sound", 4, () -> Check.told("thing k 1;thing p 1;thing r 1;").newWord(0));
        CHECK.due("23: the first of two", 6, () -> Check.told("thing k 1;thing p 1;thing r 1;thing s 1;").newWord(0));
        KnockBook x = Check.told("thing s 1;thing ss 1;thing sss 1;pine s;");
        CHECK.due("23: four slides", 624, () -> x.newWord(1));
        x.take(624, 0, 0);
        CHECK.due("23: five are too many", -1, () -> x.newWord(1));
        CHECK.due("23: another hand", 1, () -> x.newWord(0));
        CHECK.due("23: hands with nothing in common", -1, () -> Check.told("pine kp;pine rs;").newWord(3));
        CHECK.due("23: the last door's hand", 4, () -> Check.told("pine k;pine k;pine k;pine k;pine k;pine s;").newWord(32));
        CHECK.due("23: every door hears, told or not", 6, () -> Check.told("thing k 1;pine k;oak k;").newWord(1));
    }

    /** Promises 24 and 25: "none with fewer than two", "10 by the lesser and the other one". */
    private static void closest() {
        for (int what = 0; what < 2; what++) {
            int w = what;
            CHECK.due("25: of none " + w, -1, () -> new KnockBook().closest(w));
            CHECK.due("25: of one " + w, -1, () -> Check.told("thing k 1;").closest(w));
            CHECK.due("25: of two " + w, 1, () -> Check.told("thing k 1;thing p 1;").closest(w));
        }
        CHECK.due("25: the furthest", 6, () -> Check.told("thing kkkkkk 1;thing pppppp 1;").closest(0));
        CHECK.due("24: the furthest", 6, () -> Check.told("thing kkkkkk 1;thing pppppp 1;").span(1, 0));
        CHECK.due("24: with itself", 0, () -> full().span(9, 9));
        KnockBook x = Check.told("thing kkkkkk 1;thing pppppp 1;thing rrrrrr 1;thing ssssss 1;thing kkkppp 1;thing ppprrr 1;"
            + "thing rrrsss 1;thing ssskkk 1;thing kpkpk 1;thing kpkpr 1;");
        CHECK.due("25: the last couple", 89, () -> x.closest(1));
        CHECK.due("25: which is", 1, () -> x.closest(0));
        CHECK.due("24: which is", 1, () -> x.span(9, 8));
        CHECK.due("25: the first of like ones", 1, () -> full().closest(1));
        x.die(9);
        CHECK.due("25: kkkkkk, kkkppp now", 4, () -> x.closest(1));
        CHECK.due("25: by three", 3, () -> x.closest(0));
    }

    /** Promise 26: "(0 to 12)", "or fewer (of no WORDS 0)". */
    private static void said() {
        illegal("26: of ten words", 0, 12, BoundariesTest::full, (x, n) -> x.said(n));
        illegal("26: of none", 0, 12, KnockBook::new, (x, n) -> x.said(n));
        CHECK.due("26: no sounds", 0, () -> full().said(0));
        CHECK.due("26: no words", 0, () -> new KnockBook().said(12));
        KnockBook x = Check.told("thing kkkkkk 99;");
        int[] due = {0, 0, 0, 0, 0, 0, 99, 99, 99, 99, 99, 99, 198};
        for (int n = 0; n <= 12; n++) {
            int sounds = n;
            CHECK.due("26: of six sounds, in " + n, due[n], () -> x.said(sounds));
        }
        CHECK.due("26: the most", 1188, () -> Check.told("thing k 99;").said(12));
        KnockBook ten = Check.told(TEN);
        int[] often = {0, 3, 99, 102, 198, 201, 297, 300, 396, 399, 495, 498, 594};
        for (int n = 0; n <= 12; n++) {
            int sounds = n;
            CHECK.due("26: pp, at times s, in " + n, often[n], () -> ten.said(sounds));
        }
        ten.worth(0, 99);
        for (int n = 12; n >= 0; n--) {
            int sounds = n;
            CHECK.due("26: k so often, " + n, 99 * n, () -> ten.said(sounds));
        }
        CHECK.due("26: one alone, if none may follow", 99, () -> Check.told("thing k 99;joins 0;").said(12));
        CHECK.due("26: of worth 0", 0, () -> Check.told("thing k 0;").said(12));
        CHECK.due("26: a word of worth 0 between", 198,
            () -> Check.told("thing kkkkkk 0;thing kkk 99;joins not same;").said(12));
        CHECK.due("26: it doesn't fit", 99, () -> Check.told("thing kkkkkk 0;thing kkk 99;joins not same;").said(11));
    }

    /** Promise 27: "(1 to 12)". */
    private static void howMany() {
        illegal("27: of ten words", 1, 12, BoundariesTest::full, (x, n) -> x.howMany(n));
        illegal("27: of none", 1, 12, KnockBook::new, (x, n) -> x.howMany(n));
        CHECK.due("27: no words", 0, () -> new KnockBook().howMany(12));
        KnockBook x = Check.told("thing kkkkkk 99;thing pppppp 1;");
        int[] due = {0, 0, 0, 0, 0, 2, 0, 0, 0, 0, 0, 4};
        for (int n = 1; n <= 12; n++) {
            int sounds = n;
            CHECK.due("27: of six sounds, in " + n, due[n - 1], () -> x.howMany(sounds));
        }
        CHECK.due("27: one sound", 4, () -> full().howMany(1));
        CHECK.due("27: twelve sounds, ten words", 292353088L, () -> full().howMany(12));
        CHECK.due("27: only one word at once", 6, () -> Check.told(TEN + "joins 0;").howMany(2));
        CHECK.due("27: none then", 0, () -> Check.told(TEN + "joins 0;").howMany(3));
    }

    /** Promises 28, 29 and 31: "there are 8". */
    private static void hear() {
        KnockBook x = full();
        CHECK.due("29: nothing heard: all ten", 1023, x::which);
        for (int n = 1; n <= 8; n++) {
            CHECK.due("28: how much", n, () -> x.hear(5, 12));
        }
        CHECK.due("28: a 9th", -1, () -> x.hear(5, 1));
        CHECK.due("28: refused", 1, () -> x.count(10));
        CHECK.due("29: the last of ten", 512, x::which);
        x.forget();
        CHECK.due("31: none is heard", 0, () -> x.count(6));
        CHECK.due("31: all ten again", 1023, x::which);
        CHECK.due("28: the first again", 1, () -> x.hear(0, 0));
        CHECK.due("29: pine never hears nothing", 0, x::which);
        x.forget();
        x.forget();
        CHECK.due("31: nothing to forget", 0, () -> x.count(6));
        KnockBook y = full();
        for (int n = 1; n <= 7; n++) {
            y.hear(1, 0);
        }
        CHECK.due("29: oak hears nothing of four", 15, y::which);
        CHECK.due("28: the 8th counts too", 8, () -> y.hear(5, 4));
        CHECK.due("29: it was s", 8, y::which);
        CHECK.due("29: no words", 0, () -> Check.told(SIX).which());
    }

    /** Promise 30: "none without such WORDS, without DOORS". */
    private static void listen() {
        int[][] due = {{-1, 0}, {-1, 0}, {-1, 0}, {0, 1}, {5, 2}, {0, 10}};
        Made[] made = {
            KnockBook::new, () -> Check.told(TEN), () -> Check.told(SIX), () -> Check.told("thing k 1;" + SIX),
            () -> Check.told("thing k 1;thing p 1;oak k;oak k;oak k;oak k;oak k;pine k;"), BoundariesTest::full};
        for (int i = 0; i < due.length; i++) {
            for (int what = 0; what < 2; what++) {
                int n = i;
                int w = what;
                CHECK.due("30: case " + n + ", " + w, due[n][w], () -> made[n].book().listen(w));
            }
        }
        KnockBook x = full();
        x.hear(0, 0);
        CHECK.due("30: no such words", -1, () -> x.listen(0));
        CHECK.due("30: no such words, how many", 0, () -> x.listen(1));
        x.forget();
        CHECK.due("30: all again", 10, () -> x.listen(1));
    }

    /** Promise 32: none, all. */
    private static void telegraph() {
        CHECK.due("32: no words", 0, () -> Check.told(SIX).telegraph(0, 5));
        CHECK.due("32: all ten", 1023, () -> full().telegraph(0, 5));
        CHECK.due("32: a hand that can none", 0, () -> Check.told("thing k 1;pine s;pine k;").telegraph(0, 1));
        CHECK.due("32: to itself", 1, () -> Check.told("thing k 1;pine s;pine k;").telegraph(1, 1));
        CHECK.due("32: one word is nearest to nothing", 1, () -> Check.told("thing k 1;oak k;").telegraph(0, 0));
        CHECK.due("32: of two only the first", 1, () -> Check.told("thing k 1;thing p 1;pine kp;oak k;").telegraph(0, 1));
    }

    /** Promise 33: "NONE: none", "both are one", "loses 20". */
    private static void game() {
        CHECK.due("33: no words", 0, () -> Check.told(SIX).game(0, 5, 0));
        CHECK.due("33: no words, none", -1, () -> Check.told(SIX).game(0, 5, 1));
        for (int door = 0; door < 6; door++) {
            int d = door;
            CHECK.illegal("33: both are " + d, () -> full().game(d, d, 0));
        }
        Made two = () -> Check.told("thing k 30;thing p 10;pine kp;pine kp;");
        CHECK.due("33: 30 less 20 is no less than 10", 3, () -> two.book().game(0, 1, 0));
        CHECK.due("33: both knock k, the first couple", 0, () -> two.book().game(0, 1, 1));
        KnockBook x = two.book();
        x.worth(0, 29);
        CHECK.due("33: 29 less 20 is less", 2, () -> x.game(0, 1, 0));
        CHECK.due("33: k and p", 1, () -> x.game(0, 1, 1));
        x.worth(0, 31);
        CHECK.due("33: 31 less 20 is more", 1, () -> x.game(0, 1, 0));
        // oak hears nothing of any of them, and k is the nearest to that: what isn't understood gains 0, like k's worth here
        CHECK.due("33: k and p gain the same", 2, () -> Check.told("thing k 0;thing p 0;thing s 0;oak s;oak kp;").game(0, 1, 0));
        CHECK.due("33: p loses no 20", 1, () -> Check.told("thing k 0;thing p 0;oak k;oak kp;").game(0, 1, 1));
        CHECK.due("33: one word, both can it", 1, () -> Check.told("thing k 0;pine k;pine k;").game(0, 1, 0));
        CHECK.due("33: it is the first", 0, () -> Check.told("thing k 0;pine k;pine k;").game(0, 1, 1));
        CHECK.due("33: all like, all rest but those alike", 90,
            () -> Check.told(TEN.replaceAll("[0-9]+;", "0;") + "pine kprs;pine kprs;").game(0, 1, 0));
        CHECK.due("33: the last couple", 99, () -> Check.told(TEN + "pine kprs;pine kprs;").game(0, 1, 1));
    }

    /** Promise 34: "n times (0 to 60)", "Without DOORS, or without WORDS, nothing is drawn". */
    private static void frost() {
        illegal("34: n", 0, 60, BoundariesTest::full, (x, n) -> x.frost(7, n, 0));
        illegal("34: n of a new object", 0, 60, KnockBook::new, (x, n) -> x.frost(7, n, 0));
        Made one = () -> Check.told("thing k 99;oak k;");
        CHECK.due("34: not once", 0, () -> one.book().frost(7, 0, 0));
        CHECK.due("34: not once, nothing", 0, () -> one.book().frost(7, 0, 2));
        CHECK.due("34: sixty times", 60, () -> one.book().frost(7, 60, 0));
        CHECK.due("34: the most worth", 5940, () -> one.book().frost(7, 60, 1));
        for (int what = 0; what < 3; what++) {
            int w = what;
            CHECK.due("34: no doors " + w, 0, () -> Check.told(TEN).frost(7, 60, w));
            CHECK.due("34: no words " + w, 0, () -> Check.told(SIX).frost(7, 60, w));
            CHECK.due("34: nothing " + w, 0, () -> new KnockBook().frost(7, 60, w));
        }
        // oak hears nothing of k: lost, kept or not, it is nothing still, but for a slide ahead of it
        // 0 draws 0 of 4, 1 draws 1, 6 draws 2, 2 draws 3
        CHECK.due("34: the first of nothing is lost", 1, () -> one.book().frost(0, 1, 2));
        CHECK.due("34: the last of nothing is lost", 1, () -> one.book().frost(1, 1, 2));
        CHECK.due("34: nothing stays nothing", 1, () -> one.book().frost(2, 1, 2));
        CHECK.due("34: a slide is something", 0, () -> one.book().frost(6, 1, 2));
        // 8 draws the first of two WORDS and 2 of 4: s is as near to k as to sp
        CHECK.due("34: a slide ahead of nothing is one sound", 5, () -> Check.told("thing k 5;thing sp 3;oak k;").frost(8, 1, 1));
        // of kkkkkk and a knuckle by rain, with a slide ahead of both; 6 draws the second of two WORDS and 2 of 4
        KnockBook wet = Check.told("thing skkkkp 1;thing kkkkkk 7;pine k;");
        wet.rain(0, true);
        CHECK.due("34: a slide ahead of seven sounds", 7, () -> wet.frost(6, 1, 1));
        for (int seed : new int[] {MIN, MAX, -1}) {
            Model model = new Model();
            for (int[] f : Check.feeds((TEN + SIX).getBytes(java.nio.charset.StandardCharsets.ISO_8859_1))) {
                model.feed(f[0], f[1], f[2], f[3], f[4]);
            }
            model.book((TEN + SIX).length());
            for (int what = 0; what < 3; what++) {
                int w = what;
                CHECK.due("34: seed " + seed + ", " + w, model.frost(seed, 60, w), () -> full().frost(seed, 60, w));
            }
        }
    }

    /** Promises 35 and 36: "False: there is none", "in place of another one". */
    private static void image() {
        CHECK.due("36: none", false, () -> new KnockBook().restore());
        KnockBook x = new KnockBook();
        x.image();
        x.take(1, 0, 0);
        CHECK.due("36: of a new object", true, x::restore);
        CHECK.due("36: no words", 0, () -> x.count(0));
        CHECK.due("36: no acts", -1, x::undo);
        CHECK.due("36: twice", true, x::restore);
        Check.tell(x, "#");
        CHECK.due("36: behind a fault it is there", true, x::restore);
        CHECK.due("36: and status 0 is its own", 0, () -> x.count(8));
        CHECK.illegal("36: no such book", () -> x.book(-1));
        CHECK.due("36: behind no book it is there", true, x::restore);
        Check.tell(x, "");
        CHECK.due("36: behind a book it is gone", false, x::restore);
        KnockBook z = full();
        z.hear(0, 1);
        z.hear(4, 1);
        z.image();
        z.forget();
        z.hear(2, 3);
        z.hear(2, 3);
        CHECK.due("36: r was heard", 4, z::which);
        z.restore();
        CHECK.due("36: k was heard", 1, z::which);
        KnockBook y = full();
        for (int i = 0; i < 40; i++) {
            y.worth(9, i);
        }
        for (int i = 0; i < 8; i++) {
            y.hear(5, 12);
        }
        for (int d = 0; d < 6; d++) {
            y.rain(d, true);
        }
        y.image();
        for (int i = 0; i < 40; i++) {
            y.undo();
        }
        y.forget();
        while (y.count(0) > 0) {
            y.die(0);
        }
        CHECK.due("36: as full as can be", true, y::restore);
        CHECK.due("36: ten words", 10, () -> y.count(0));
        CHECK.due("36: six wet doors", 63, () -> y.count(2));
        CHECK.due("36: eight heard", 8, () -> y.count(6));
        CHECK.due("36: forty acts", 40, () -> y.count(5));
        for (int left = 39; left >= 0; left--) {
            CHECK.due("36: left", left, y::undo);
        }
        CHECK.due("36: the oldest that is kept", 5, () -> y.word(9, 3));
        CHECK.due("36: dry", 0, () -> y.count(2));
    }
}
