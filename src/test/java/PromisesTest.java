/** Each promise by its number: ordinary calls, the edges that the document names, wrong calls. Answers are by hand. */
public final class PromisesTest {
    private static final Check CHECK = new Check();
    private static final String DOORS = "pine kprs;oak kp;felt kr;glass kpr;";
    private static final String HOUSE = "thing kk 5;deed kkp 3;prayer r 7;thing pr 4;" + DOORS;
    private static final String TEXT = HOUSE + "joins left+right<4;";
    private static final String TEN = "thing k 0;thing p 1;thing r 2;thing s 3;thing kk 4;"
        + "deed kp 5;deed kr 6;deed ks 7;deed pk 8;prayer pp 99;";
    /** Twelve slides. */
    private static final int LONGEST = 244140624;

    private PromisesTest() {
    }

    public static void main(String[] args) {
        newObject();
        feed();
        book();
        bookFault();
        count();
        wordAndDoor();
        hears();
        read();
        readByRule();
        ruleAskedAnew();
        reading();
        apartAndNearest();
        take();
        die();
        worthAndPart();
        rain();
        undo();
        mend();
        twoWays();
        prefixes();
        tellApart();
        newWord();
        spanAndClosest();
        saidAndHowMany();
        hearAndWhich();
        listen();
        telegraph();
        game();
        frost();
        image();
        CHECK.end();
    }

    private static int row(String sounds) {
        return Check.row(sounds);
    }

    /** Promise 1. */
    private static void newObject() {
        KnockBook x = new KnockBook();
        for (int what = 0; what <= 10; what++) {
            int w = what;
            CHECK.due("1: count " + what, 0, () -> x.count(w));
        }
        CHECK.due("1: fault", -1, x::fault);
        CHECK.due("1: undo", -1, x::undo);
        CHECK.due("1: restore", false, x::restore);
        CHECK.missing("1: word", () -> x.word(0, 0));
        CHECK.missing("1: door", () -> x.door(0, 0));
        CHECK.due("1: NONE", -1, () -> KnockBook.NONE);
    }

    /** Promise 2. */
    private static void feed() {
        KnockBook x = new KnockBook();
        for (int n = 20; n <= 600; n += 20) {
            CHECK.due("2: feed", n, () -> x.feed(0x20202020, 0x20202020, 0x20202020, 0x20202020, 0x20202020));
        }
        CHECK.due("2: full", -1, () -> x.feed(0, 0, 0, 0, 0));
        CHECK.due("2: none came", 600, () -> x.count(7));
        CHECK.due("2: all 600 are blanks", 0, () -> x.book(600));
        KnockBook y = new KnockBook();
        // "pine", " k;p", "ine ", "p;pi", "ne r"
        y.feed(0x70696e65, 0x206b3b70, 0x696e6520, 0x703b7069, 0x6e652072);
        y.feed(0x3b200a3b, -1, -1, -1, -1);
        CHECK.due("2: the highest byte first", 0, () -> y.book(23));
        CHECK.due("2: three doors", 3, () -> y.count(1));
        CHECK.due("2: the third one's hand", 4, () -> y.door(2, 1));
    }

    /** Promises 3 and 4. */
    private static void book() {
        KnockBook x = new KnockBook();
        x.feed(0x20202020, 0x20202020, 0x20202020, 0x20202020, 0x20202020);
        CHECK.illegal("3: below 0", () -> x.book(-1));
        CHECK.illegal("3: more than there are", () -> x.book(21));
        CHECK.illegal("3: far more", () -> x.book(Integer.MAX_VALUE));
        CHECK.illegal("3: far below", () -> x.book(Integer.MIN_VALUE));
        CHECK.due("3: nothing changed", 20, () -> x.count(7));
        CHECK.due("3: no bytes are a book", 0, () -> x.book(0));
        CHECK.due("3: the tape is empty", 0, () -> x.count(7));
        CHECK.illegal("3: nothing is left", () -> x.book(1));
        CHECK.due("3: told", 0, () -> Check.tell(x, TEXT));
        x.take(row("s"), 0, 1);
        x.rain(0, true);
        x.hear(0, 1);
        x.image();
        x.take(0, 0, 0);
        CHECK.due("3: told anew", 0, () -> Check.tell(x, "deed k 1;glass k;"));
        CHECK.due("3: words", 1, () -> x.count(0));
        CHECK.due("3: doors", 1, () -> x.count(1));
        CHECK.due("3: dry again", 0, () -> x.count(2));
        CHECK.due("3: acts are gone", 0, () -> x.count(5));
        CHECK.due("3: what was heard is gone", 0, () -> x.count(6));
        CHECK.due("3: status stays", 1, () -> x.count(9));
        CHECK.due("3: no undo", -1, x::undo);
        CHECK.due("3: the image is gone", false, x::restore);
        CHECK.due("3: without a rule k follows k", 1, () -> x.read(row("kk"), 0));
    }

    /** Promises 3 and 4: with a FAULT all stays. */
    private static void bookFault() {
        KnockBook x = Check.told(TEXT);
        x.rain(0, true);
        x.hear(0, 1);
        x.image();
        CHECK.due("3: a fault", 1, () -> Check.tell(x, "thing s 1;pine k;joins 0;thing"));
        CHECK.due("4: its place", 30, x::fault);
        CHECK.due("3: refused", 1, () -> x.count(8));
        CHECK.due("3: words stay", 4, () -> x.count(0));
        CHECK.due("3: doors stay", 4, () -> x.count(1));
        CHECK.due("3: wet stays", 1, () -> x.count(2));
        CHECK.due("3: acts stay", 1, () -> x.count(5));
        CHECK.due("3: heard stays", 1, () -> x.count(6));
        CHECK.due("3: the tape is empty", 0, () -> x.count(7));
        CHECK.due("3: the rule stays", 2, () -> x.read(row("kkpr"), 0));
        CHECK.illegal("3: too many", () -> x.book(1));
        CHECK.due("4: the place stays", 30, x::fault);
        CHECK.due("3: the image stays", true, x::restore);
        CHECK.due("4: the place is in no image", 30, x::fault);
        CHECK.due("3: told", 0, () -> Check.tell(x, ""));
        CHECK.due("4: none now", -1, x::fault);
    }

    /** Promise 5. */
    private static void count() {
        KnockBook x = Check.told(TEXT);
        x.rain(1, true);
        x.rain(3, true);
        x.rain(3, true);
        x.hear(0, 0);
        x.hear(0, 5);
        x.hear(0, 5);
        x.feed(0, 0, 0, 0, 0);
        int[] due = {4, 4, 10, 19, 8, 2, 1, 20, 0, 1, 2};
        for (int what = 0; what < due.length; what++) {
            int w = what;
            CHECK.due("5: count " + what, due[what], () -> x.count(w));
        }
        CHECK.missing("5: below", () -> x.count(-1));
        CHECK.missing("5: above", () -> x.count(11));
    }

    /** Promises 6 and 7. */
    private static void wordAndDoor() {
        KnockBook x = Check.told(TEXT + "thing ssssss 99;");
        int[][] words = {{6, 2, 0, 5, 15}, {32, 3, 1, 3, 11}, {3, 1, 2, 7, 13}, {13, 2, 0, 4, 9}, {15624, 6, 0, 99, 1}};
        int[][] doors = {{0, 15, 0, 31, 0}, {1, 3, 1, 3, 0}, {2, 5, 0, 5, 2}, {3, 7, 0, 15, 0}};
        x.rain(1, true);
        for (int i = 0; i < words.length; i++) {
            for (int what = 0; what < 5; what++) {
                int n = i;
                int w = what;
                CHECK.due("6: word " + i + ", " + what, words[i][what], () -> x.word(n, w));
            }
        }
        for (int i = 0; i < doors.length; i++) {
            for (int what = 0; what < 5; what++) {
                int n = i;
                int w = what;
                CHECK.due("7: door " + i + ", " + what, doors[i][what], () -> x.door(n, w));
            }
        }
        CHECK.missing("6: no such word", () -> x.word(5, 0));
        CHECK.missing("6: a word below 0", () -> x.word(-1, 0));
        CHECK.missing("6: what below 0", () -> x.word(0, -1));
        CHECK.missing("6: another what", () -> x.word(0, 5));
        CHECK.missing("7: no such door", () -> x.door(4, 0));
        CHECK.missing("7: a door below 0", () -> x.door(-1, 0));
        CHECK.missing("7: what below 0", () -> x.door(0, -1));
        CHECK.missing("7: another what", () -> x.door(0, 5));
        KnockBook y = Check.told("thing kp 1;thing kr 1;thing ks 1;thing k 1;thing pk 1;oak k;felt k;pine s;");
        CHECK.due("7: oak confounds kp, kr, ks", 3, () -> y.door(0, 4));
        CHECK.due("7: felt confounds kp, k, pk", 3, () -> y.door(1, 4));
        CHECK.due("7: pine confounds none", 0, () -> y.door(2, 4));
    }

    /** Promise 8. */
    private static void hears() {
        KnockBook x = Check.told(DOORS + "oak k;felt k;");
        x.rain(4, true);
        x.rain(5, true);
        CHECK.due("8: pine", row("kprs"), () -> x.hears(0, row("kprs")));
        CHECK.due("8: oak", row("kpr"), () -> x.hears(1, row("kprs")));
        CHECK.due("8: felt", row("krs"), () -> x.hears(2, row("kprs")));
        CHECK.due("8: felt, palms alone", 0, () -> x.hears(2, row("ppp")));
        CHECK.due("8: glass", row("kpks"), () -> x.hears(3, row("kprs")));
        CHECK.due("8: glass, rings alone", row("kkk"), () -> x.hears(3, row("rrr")));
        CHECK.due("8: oak, nothing", 0, () -> x.hears(1, 0));
        CHECK.due("8: wet oak, nothing", 1, () -> x.hears(4, 0));
        CHECK.due("8: wet oak", row("kprk"), () -> x.hears(4, row("kprs")));
        CHECK.due("8: wet oak, 12", row("sssssssssssk"), () -> x.hears(4, LONGEST));
        CHECK.due("8: wet felt, 12", LONGEST, () -> x.hears(5, LONGEST));
        CHECK.due("8: wet felt, 11", row("sssssssssssk"), () -> x.hears(5, row("sssssssssss")));
        CHECK.due("8: wet felt, 12 without a palm", row("sssssssssssk"), () -> x.hears(5, row("sssssspsssss")));
        CHECK.due("8: pine, the longest", LONGEST, () -> x.hears(0, LONGEST));
        CHECK.illegal("8: above the longest", () -> x.hears(0, LONGEST + 1));
        CHECK.illegal("8: 13 knuckles", () -> x.hears(0, 305175781));
        CHECK.illegal("8: far above", () -> x.hears(0, Integer.MAX_VALUE));
        CHECK.illegal("8: below 0", () -> x.hears(0, -1));
        CHECK.illegal("8: far below", () -> x.hears(0, Integer.MIN_VALUE));
        CHECK.illegal("8: a 0 at the end", () -> x.hears(0, 5));
        CHECK.illegal("8: a 0 within", () -> x.hears(0, 26));
        CHECK.missing("8: no such door", () -> x.hears(6, 1));
        CHECK.missing("8: the door ahead of the row", () -> x.hears(6, 5));
        CHECK.missing("8: a door below 0", () -> x.hears(-1, 5));
    }

    /** Promise 9. */
    private static void read() {
        KnockBook x = Check.told("thing k 1;deed kk 1;prayer kkk 1;thing p 1;");
        CHECK.due("9: k", 1, () -> x.read(row("k"), 0));
        CHECK.due("9: kk", 2, () -> x.read(row("kk"), 0));
        CHECK.due("9: kkk", 4, () -> x.read(row("kkk"), 0));
        CHECK.due("9: kkkk", 7, () -> x.read(row("kkkk"), 0));
        CHECK.due("9: 12 knuckles", 927, () -> x.read(row("kkkkkkkkkkkk"), 0));
        CHECK.due("9: 12 knuckles by four", 4, () -> x.read(row("kkkkkkkkkkkk"), 1));
        CHECK.due("9: kkpkk", 4, () -> x.read(row("kkpkk"), 0));
        CHECK.due("9: kkpkk by three", 3, () -> x.read(row("kkpkk"), 1));
        CHECK.due("9: it can't be", 0, () -> x.read(row("kks"), 0));
        CHECK.due("9: by none", 0, () -> x.read(row("kks"), 1));
        CHECK.due("9: no sounds are no words", 0, () -> x.read(0, 0));
        CHECK.due("9: no sounds by none", 0, () -> x.read(0, 1));
        CHECK.missing("9: another what", () -> x.read(1, 2));
        CHECK.missing("9: what ahead of the row", () -> x.read(5, -1));
        CHECK.illegal("9: no row", () -> x.read(5, 0));
    }

    private static long joins(String rule, String sounds) {
        return Check.told("thing k 2;deed pp 3;prayer r 0;joins " + rule + ";").read(row(sounds), 0);
    }

    /** The rule: VALUES, what binds first, what wraps. */
    private static void readByRule() {
        String[][] due = {
            {"0", "k", "1"}, {"0", "kk", "0"}, {"1", "kk", "1"}, {"7", "kk", "1"}, {"0-1", "kk", "1"},
            {"left=0", "kpp", "1"}, {"left=0", "ppk", "0"}, {"right=1", "kpp", "1"}, {"right=1", "ppk", "0"},
            {"first=2", "kpp", "1"}, {"first=2", "ppk", "0"}, {"next=3", "kpp", "1"}, {"next=3", "ppk", "0"},
            {"long=2", "kpp", "1"}, {"long=2", "ppk", "0"}, {"same", "kk", "1"}, {"same", "kpp", "0"},
            {"same=0", "kk", "0"}, {"same=0", "kppk", "1"},
            {"1+2*3=7", "kk", "1"}, {"(1+2)*3=9", "kk", "1"}, {"7-2-1=4", "kk", "1"}, {"8/2/2=2", "kk", "1"},
            {"7/2*2=6", "kk", "1"}, {"(0-7)/2=0-3", "kk", "1"}, {"5/0=0", "kk", "1"}, {"0/0", "kk", "0"},
            {"5/(1-1)+1=1", "kk", "1"}, {"9999*9999*9999<0", "kk", "1"},
            {"32768*2", "kk", "fault"}, {"8192*8192*32<0", "kk", "1"}, {"8192*8192*32/(0-1)<0", "kk", "1"},
            {"8192*8192*64=0", "kk", "1"}, {"not 0", "kk", "1"}, {"not 5", "kk", "0"}, {"not not 5=1", "kk", "0"},
            {"(not not 5)=1", "kk", "1"}, {"not 1=2", "kk", "1"}, {"0 and 0 or 1", "kk", "1"},
            {"1 or 0 and 0", "kk", "1"}, {"(1 or 0) and 0", "kk", "0"}, {"(2 or 0)=1", "kk", "1"},
            {"(2 and 3)=1", "kk", "1"}, {"(2)=1", "kk", "0"}, {"(1<2)+(1<2)=2", "kk", "1"}, {"2<2", "kk", "0"},
            {"0-1<0", "kk", "1"}, {"not 0 and not 0", "kk", "1"}, {"first-next=0-1", "kpp", "1"},
            {"first-next=0-1", "ppk", "0"}, {"left<right", "kppr", "1"}, {"left<right", "rk", "0"},
        };
        for (String[] d : due) {
            if (d[2].equals("fault")) {
                CHECK.due("rule " + d[0], 2, () -> Check.tell(new KnockBook(), "joins " + d[0] + ";"));
            } else {
                CHECK.due("rule " + d[0] + " of " + d[1], d[2], () -> joins(d[0], d[1]));
            }
        }
    }

    /** What may follow what is asked of the WORDS as they are now. */
    private static void ruleAskedAnew() {
        String rule = "joins first<next;";
        KnockBook x = Check.told("thing k 5;deed p 1;thing r 2;" + rule);
        ruled(x, "as told", "pr", "kp");
        x.image();
        x.worth(1, 9);
        ruled(x, "p is worth 9", "kp", "pr");
        x.undo();
        ruled(x, "undone", "pr", "kp");
        x.die(0);
        ruled(x, "k died", "pr", "rp");
        x.take(row("k"), 0, 3);
        ruled(x, "k is the third now", "rk", "kp");
        ruled(x, "p is the first now", "pr", "rp");
        x.restore();
        ruled(x, "restored", "pr", "kp");
        Check.tell(x, "thing k 5;deed p 1;thing r 2;joins next<first;");
        ruled(x, "another rule", "kp", "pr");
        Check.tell(x, "thing p 5;deed k 1;thing r 2;joins next<first;");
        ruled(x, "other words", "pk", "kp");
    }

    private static void ruled(KnockBook x, String when, String may, String mayNot) {
        CHECK.due("9: " + when + ": " + may, 1, () -> x.read(row(may), 0));
        CHECK.due("9: " + when + ": " + mayNot, 0, () -> x.read(row(mayNot), 0));
    }

    /** Promise 10. */
    private static void reading() {
        KnockBook x = Check.told("thing kkp 1;thing k 1;thing kk 1;thing kp 1;thing p 1;");
        int row = row("kkkp");
        CHECK.due("10: kkkp by two", 2, () -> x.read(row, 1));
        CHECK.due("10: k first, not kk", 1, () -> x.reading(row, 0));
        CHECK.due("10: kkp then", 0, () -> x.reading(row, 1));
        CHECK.missing("10: no third one", () -> x.reading(row, 2));
        CHECK.missing("10: below 0", () -> x.reading(row, -1));
        CHECK.missing("10: it can't be read", () -> x.reading(row("ks"), 0));
        CHECK.missing("10: nothing", () -> x.reading(0, 0));
        CHECK.illegal("10: no row", () -> x.reading(5, 0));
        CHECK.illegal("10: the row ahead of i", () -> x.reading(-1, -1));
        KnockBook y = Check.told("thing k 1;deed kk 2;joins not same;");
        CHECK.due("10: kkk, by rule", 0, () -> y.reading(row("kkk"), 0));
        CHECK.due("10: kkk, by rule, then", 1, () -> y.reading(row("kkk"), 1));
        CHECK.due("10: kkkk: k kk k", 3, () -> y.read(row("kkkk"), 1));
        CHECK.due("10: in one way", 1, () -> y.read(row("kkkk"), 0));
        CHECK.due("10: its last one", 0, () -> y.reading(row("kkkk"), 2));
        y.die(0);
        CHECK.missing("10: k is no word now", () -> y.reading(row("kkk"), 0));
    }

    /** Promises 11 and 12. */
    private static void apartAndNearest() {
        KnockBook x = Check.told(TEXT);
        CHECK.due("11: one comes in", 1, () -> x.apart(row("kp"), row("kkp")));
        CHECK.due("11: one is lost", 1, () -> x.apart(row("kkp"), row("kp")));
        CHECK.due("11: one is another", 1, () -> x.apart(row("kkp"), row("ksp")));
        CHECK.due("11: turned round", 2, () -> x.apart(row("kp"), row("pk")));
        CHECK.due("11: shifted", 2, () -> x.apart(row("kprskprskprs"), row("prskprskprsk")));
        CHECK.due("11: alike", 0, () -> x.apart(LONGEST, LONGEST));
        CHECK.due("11: nothing and nothing", 0, () -> x.apart(0, 0));
        CHECK.due("11: all others", 12, () -> x.apart(LONGEST, row("kkkkkkkkkkkk")));
        CHECK.illegal("11: the first is none", () -> x.apart(5, 1));
        CHECK.illegal("11: the other is none", () -> x.apart(1, 5));
        CHECK.due("12: pk: kk is the least of like ones", 0, () -> x.nearest(row("pk"), 0));
        CHECK.due("12: how far", 1, () -> x.nearest(row("pk"), 1));
        CHECK.due("12: ksp", 1, () -> x.nearest(row("ksp"), 0));
        CHECK.due("12: nothing", 2, () -> x.nearest(0, 0));
        CHECK.due("12: itself", 3, () -> x.nearest(row("pr"), 0));
        CHECK.due("12: itself, how far", 0, () -> x.nearest(row("pr"), 1));
        CHECK.missing("12: another what", () -> x.nearest(5, 2));
        CHECK.missing("12: what below 0", () -> x.nearest(1, -1));
        CHECK.illegal("12: no row", () -> x.nearest(5, 0));
        CHECK.due("12: no words", -1, () -> new KnockBook().nearest(1, 0));
        CHECK.due("12: no words, how far", -1, () -> new KnockBook().nearest(1, 1));
    }

    /** Promise 13. */
    private static void take() {
        KnockBook x = new KnockBook();
        CHECK.due("13: the first", 0, () -> x.take(row("k"), 0, 0));
        CHECK.due("13: six sounds", 1, () -> x.take(row("ssssss"), 2, 99));
        CHECK.due("13: its part", 2, () -> x.word(1, 2));
        CHECK.due("13: its worth", 99, () -> x.word(1, 3));
        int[][] refused = {
            {row("k"), 0, 0}, {0, 0, 0}, {row("kkkkkkk"), 0, 0}, {5, 0, 0}, {-1, 0, 0}, {LONGEST + 1, 0, 0},
            {row("p"), -1, 0}, {row("p"), 3, 0}, {row("p"), 0, -1}, {row("p"), 0, 100}};
        for (int[] r : refused) {
            CHECK.due("13: refused " + r[0] + ", " + r[1] + ", " + r[2], -1, () -> x.take(r[0], r[1], r[2]));
        }
        CHECK.due("13: so often", refused.length, () -> x.count(9));
        CHECK.due("13: acts", 2, () -> x.count(5));
        KnockBook y = Check.told(TEN);
        CHECK.due("13: there are 10", -1, () -> y.take(row("ss"), 0, 0));
        y.die(3);
        CHECK.due("13: there are 9", 9, () -> y.take(row("s"), 0, 0));
    }

    /** Promise 14. */
    private static void die() {
        KnockBook x = Check.told(TEN);
        CHECK.due("14: the first", row("k"), () -> x.die(0));
        CHECK.due("14: one less", row("p"), () -> x.word(0, 0));
        CHECK.due("14: the last", row("pp"), () -> x.die(8));
        CHECK.due("14: within", row("ks"), () -> x.die(6));
        CHECK.due("14: behind it", row("pk"), () -> x.word(6, 0));
        CHECK.due("14: its worth came along", 8, () -> x.word(6, 3));
        CHECK.due("14: its part came along", 1, () -> x.word(6, 2));
        CHECK.missing("14: none there", () -> x.die(7));
        CHECK.missing("14: below 0", () -> x.die(-1));
        CHECK.due("14: acts", 3, () -> x.count(5));
        CHECK.due("14: none refused", 0, () -> x.count(9));
    }

    /** Promises 15 and 16. */
    private static void worthAndPart() {
        KnockBook x = Check.told(TEXT);
        CHECK.due("15: as it was", 5, () -> x.worth(0, 99));
        CHECK.due("15: another", 99, () -> x.worth(0, 0));
        CHECK.due("15: the same is an act too", 0, () -> x.worth(0, 0));
        CHECK.due("15: below", -1, () -> x.worth(0, -1));
        CHECK.due("15: above", -1, () -> x.worth(0, 100));
        CHECK.due("15: stays", 0, () -> x.word(0, 3));
        CHECK.missing("15: no such word", () -> x.worth(4, 100));
        CHECK.missing("15: below 0", () -> x.worth(-1, 1));
        CHECK.due("16: as it was", 0, () -> x.part(0, 2));
        CHECK.due("16: another", 2, () -> x.part(0, 1));
        CHECK.due("16: below", -1, () -> x.part(0, -1));
        CHECK.due("16: above", -1, () -> x.part(0, 3));
        CHECK.due("16: stays", 1, () -> x.word(0, 2));
        CHECK.missing("16: no such word", () -> x.part(4, 3));
        CHECK.due("15, 16: refused", 4, () -> x.count(9));
        CHECK.due("15, 16: acts", 5, () -> x.count(5));
        CHECK.due("16: the rule asks anew", 1, () -> x.read(row("kkr"), 0));
        x.part(0, 2);
        CHECK.due("16: 2+2 is not below 4", 0, () -> x.read(row("kkr"), 0));
    }

    /** Promise 17. */
    private static void rain() {
        KnockBook x = Check.told(TEXT);
        CHECK.due("17: dry already", false, () -> x.rain(2, false));
        CHECK.due("17: wet", true, () -> x.rain(2, true));
        CHECK.due("17: wet already", false, () -> x.rain(2, true));
        CHECK.due("17: bits", 4, () -> x.count(2));
        CHECK.due("17: dry", true, () -> x.rain(2, false));
        CHECK.due("17: no bits", 0, () -> x.count(2));
        CHECK.due("17: refused", 2, () -> x.count(9));
        CHECK.due("17: acts", 2, () -> x.count(5));
        CHECK.missing("17: no such door", () -> x.rain(4, true));
        CHECK.missing("17: below 0", () -> x.rain(-1, true));
    }

    /** Promise 18. */
    private static void undo() {
        KnockBook x = Check.told(TEXT);
        x.worth(1, 50);
        x.die(0);
        x.part(0, 2);
        x.take(row("kk"), 1, 9);
        x.rain(3, true);
        x.die(3);
        CHECK.due("18: kk is back", 5, x::undo);
        CHECK.due("18: at its place", row("kk"), () -> x.word(3, 0));
        CHECK.due("18: with its part", 1, () -> x.word(3, 2));
        CHECK.due("18: with its worth", 9, () -> x.word(3, 3));
        CHECK.due("18: dry", 4, x::undo);
        CHECK.due("18: no bits", 0, () -> x.count(2));
        CHECK.due("18: taken no more", 3, x::undo);
        CHECK.due("18: three", 3, () -> x.count(0));
        CHECK.due("18: the part", 2, x::undo);
        CHECK.due("18: deed", 1, () -> x.word(0, 2));
        CHECK.due("18: worth stays", 50, () -> x.word(0, 3));
        CHECK.due("18: back at the first place", 1, x::undo);
        CHECK.due("18: kk", row("kk"), () -> x.word(0, 0));
        CHECK.due("18: kkp behind", row("kkp"), () -> x.word(1, 0));
        CHECK.due("18: the worth", 0, x::undo);
        CHECK.due("18: 3", 3, () -> x.word(1, 3));
        CHECK.due("18: none", -1, x::undo);
        CHECK.due("18: that's not refused", 0, () -> x.count(9));
        for (int i = 0; i < 45; i++) {
            x.worth(0, i);
        }
        CHECK.due("18: 40 are kept", 40, () -> x.count(5));
        for (int left = 39; left >= 0; left--) {
            CHECK.due("18: left", left, x::undo);
        }
        CHECK.due("18: the oldest ones are not", -1, x::undo);
        CHECK.due("18: so it stays", 4, () -> x.word(0, 3));
    }

    /** Promise 19. */
    private static void mend() {
        KnockBook x = Check.told("thing kk 1;deed pr 2;joins left<right;");
        CHECK.due("19: nothing", 2, () -> x.mend(0));
        CHECK.due("19: read", 0, () -> x.mend(row("kkpr")));
        CHECK.due("19: the other way", 2, () -> x.mend(row("prkk")));
        CHECK.due("19: no third one", 2, () -> x.mend(row("kkprkk")));
        CHECK.due("19: 12 slides", 12, () -> x.mend(LONGEST));
        CHECK.illegal("19: no row", () -> x.mend(5));
        CHECK.illegal("19: no row, no words", () -> new KnockBook().mend(-1));
        CHECK.due("19: no words", -1, () -> new KnockBook().mend(0));
        KnockBook y = Check.told("thing kkkkk 1;");
        CHECK.due("19: two are lost", 2, () -> y.mend(row("kkkkkkkkkkkk")));
        CHECK.due("19: one comes in", 1, () -> y.mend(row("kkkkkkkkk")));
        KnockBook z = Check.told("thing kkkk 0;thing rrrrr 1;deed s 2;joins left+right=1;");
        CHECK.due("19: a slide between", 1, () -> z.mend(row("kkkkrrrrr")));
        CHECK.due("19: two slides, 14 sounds then", 2, () -> z.mend(row("kkkkkkkkkkkk")));
        KnockBook v = Check.told("thing k 0;thing p 1;thing r 2;joins next=first+1;");
        CHECK.due("19: p between", 1, () -> v.mend(row("kr")));
    }

    /** Promise 20. */
    private static void twoWays() {
        CHECK.due("20: no words", -1, () -> new KnockBook().twoWays());
        CHECK.due("20: k, kk", 2, () -> Check.told("thing k 1;thing kk 1;").twoWays());
        CHECK.due("20: none", -1, () -> Check.told("thing k 1;thing kp 1;thing ppp 1;").twoWays());
        CHECK.due("20: no prefix", -1, () -> Check.told("thing kk 1;thing p 1;thing kp 1;").twoWays());
        CHECK.due("20: the rule isn't asked", 2, () -> Check.told("thing k 1;thing kk 1;joins 0;").twoWays());
        CHECK.due("20: kkp kk, kk pkk", 5, () -> Check.told("thing kkp 1;thing kk 1;thing pkk 1;").twoWays());
        CHECK.due("20: kpr, kp r", 3, () -> Check.told("thing kpr 1;thing kp 1;thing r 1;").twoWays());
        CHECK.due("20: kk and kkk", 5, () -> Check.told("thing kk 1;thing kkk 1;").twoWays());
        CHECK.due("20: 5 and 6 knuckles", 11, () -> Check.told("thing kkkkk 1;thing kkkkkk 1;").twoWays());
        CHECK.due("20: 4 and 6 knuckles", 10, () -> Check.told("thing kkkk 1;thing kkkkkk 1;").twoWays());
        CHECK.due("20: kp rsssss pkkkkk, kpr sssssp kkkkk", 14, () -> Check.told("thing kp 1;thing kpr 1;"
            + "thing rsssss 1;thing sssssp 1;thing pkkkkk 1;thing kkkkk 1;").twoWays());
    }

    /** Promise 21. */
    private static void prefixes() {
        CHECK.due("21: no words", 0, () -> new KnockBook().prefixes());
        CHECK.due("21: k of three, kk of one, not of the last", 4,
            () -> Check.told("thing kkk 1;thing k 1;thing kk 1;thing kp 1;thing pk 1;").prefixes());
        CHECK.due("21: ten", 6, () -> Check.told(TEN).prefixes());
    }

    /** Promise 22. */
    private static void tellApart() {
        CHECK.due("22: nothing", 0, () -> new KnockBook().tellApart());
        CHECK.due("22: one word", 0, () -> Check.told("thing k 1;").tellApart());
        CHECK.due("22: two words, no door", -1, () -> Check.told("thing k 1;thing p 1;").tellApart());
        CHECK.due("22: oak hears nothing", -1, () -> Check.told("thing k 1;thing p 1;oak k;").tellApart());
        CHECK.due("22: felt", 2, () -> Check.told("thing k 1;thing p 1;oak k;felt k;").tellApart());
        CHECK.due("22: the least of like ones", 1, () -> Check.told("thing k 1;thing p 1;felt k;pine k;").tellApart());
        CHECK.due("22: one is fewer than two", 4,
            () -> Check.told("thing k 1;thing kp 1;thing r 1;felt k;glass k;pine k;").tellApart());
        CHECK.due("22: oak and felt, ahead of felt and glass", 3,
            () -> Check.told("thing k 1;thing r 1;thing kp 1;oak k;felt k;glass k;").tellApart());
    }

    /** Promise 23. */
    private static void newWord() {
        CHECK.due("23: no doors", row("p"), () -> Check.told("thing k 1;").newWord(0));
        KnockBook x = Check.told(TEXT);
        CHECK.due("23: rs", row("rs"), () -> x.newWord(0));
        CHECK.due("23: by felt's hand", row("r"), () -> Check.told("thing k 1;thing kk 1;felt kr;").newWord(1));
        CHECK.due("23: by oak's hand", row("kk"), () -> Check.told("thing k 1;oak k;").newWord(1));
        CHECK.due("23: oak hears k of all kk, kp", row("kk"), () -> Check.told("thing k 1;oak k;").newWord(0));
        CHECK.due("23: oak hears k of kp", row("kkk"), () -> Check.told("thing k 1;thing kp 1;oak k;").newWord(1));
        CHECK.due("23: without its hand", row("pk"), () -> Check.told("thing k 1;thing kp 1;oak k;").newWord(0));
        CHECK.due("23: hands with nothing in common", -1, () -> Check.told("pine k;pine p;").newWord(3));
        CHECK.due("23: one of them", row("p"), () -> Check.told("pine k;pine p;").newWord(2));
        CHECK.due("23: four sounds and no more", -1,
            () -> Check.told("thing k 1;thing kk 1;thing kkk 1;thing kkkk 1;pine k;").newWord(1));
        CHECK.due("23: four sounds", row("kkkk"), () -> Check.told("thing k 1;thing kk 1;thing kkk 1;pine k;").newWord(1));
        CHECK.illegal("23: a bit too many", () -> x.newWord(16));
        CHECK.illegal("23: below 0", () -> x.newWord(-1));
        CHECK.illegal("23: no doors", () -> new KnockBook().newWord(1));
        CHECK.due("23: no doors, no bits", 1, () -> new KnockBook().newWord(0));
    }

    /** Promises 24 and 25. */
    private static void spanAndClosest() {
        KnockBook x = Check.told("thing kkkk 1;thing ppp 1;thing kkp 1;thing kpp 1;");
        CHECK.due("24: 0, 1", 4, () -> x.span(0, 1));
        CHECK.due("24: 0, 2", 2, () -> x.span(0, 2));
        CHECK.due("24: 2, 0", 2, () -> x.span(2, 0));
        CHECK.due("24: one", 0, () -> x.span(3, 3));
        CHECK.missing("24: no such word", () -> x.span(4, 0));
        CHECK.missing("24: no such other", () -> x.span(0, 4));
        CHECK.missing("24: below 0", () -> x.span(0, -1));
        CHECK.due("25: span", 1, () -> x.closest(0));
        CHECK.due("25: ppp, kpp ahead of kkp, kpp", 13, () -> x.closest(1));
        CHECK.missing("25: another what", () -> x.closest(2));
        CHECK.missing("25: below 0", () -> x.closest(-1));
        CHECK.due("25: one word", -1, () -> Check.told("thing k 1;").closest(0));
        CHECK.due("25: one word, no couple", -1, () -> Check.told("thing k 1;").closest(1));
        CHECK.due("25: 0 and 1", 1, () -> Check.told("thing k 1;thing p 1;").closest(1));
    }

    /** Promises 26 and 27. */
    private static void saidAndHowMany() {
        KnockBook x = Check.told("thing k 1;deed pp 5;joins not same;");
        int[] said = {0, 1, 5, 6, 7, 11, 12, 13, 17, 18, 19, 23, 24};
        long[] many = {0, 1, 1, 2, 1, 1, 2, 1, 1, 2, 1, 1, 2};
        for (int n = 0; n <= 12; n++) {
            int sounds = n;
            CHECK.due("26: said " + n, said[n], () -> x.said(sounds));
            if (n > 0) {
                CHECK.due("27: how many of " + n, many[n], () -> x.howMany(sounds));
            }
        }
        CHECK.illegal("26: below 0", () -> x.said(-1));
        CHECK.illegal("26: above 12", () -> x.said(13));
        CHECK.illegal("27: 0", () -> x.howMany(0));
        CHECK.illegal("27: above 12", () -> x.howMany(13));
        CHECK.due("26: too long a word", 0, () -> Check.told("thing kkkk 9;").said(3));
        CHECK.due("26: fewer sounds", 9, () -> Check.told("thing kkkk 9;").said(7));
        CHECK.due("27: each way", 4, () -> Check.told("thing k 1;thing kk 1;thing kkk 1;").howMany(3));
        CHECK.due("27: four sounds, any way", 16777216L,
            () -> Check.told("thing k 1;thing p 1;thing r 1;thing s 1;").howMany(12));
        CHECK.due("26: worth 99 each", 1188, () -> Check.told("thing k 99;").said(12));
    }

    /** Promises 28, 29 and 31. */
    private static void hearAndWhich() {
        KnockBook x = Check.told(TEXT);
        CHECK.due("29: nothing is heard", 15, x::which);
        CHECK.due("28: felt", 1, () -> x.hear(2, row("kk")));
        CHECK.due("29: kk, kkp", 3, x::which);
        CHECK.due("28: oak", 2, () -> x.hear(1, row("kk")));
        CHECK.due("29: kkp", 2, x::which);
        CHECK.due("28: no row", -1, () -> x.hear(1, 5));
        CHECK.due("28: refused", 1, () -> x.count(10));
        CHECK.due("28: nothing can be heard", 3, () -> x.hear(1, 0));
        CHECK.due("29: none", 0, x::which);
        x.forget();
        CHECK.due("31: forgotten", 0, () -> x.count(6));
        CHECK.due("31: all again", 15, x::which);
        CHECK.due("31: refused stays", 1, () -> x.count(10));
        x.rain(1, true);
        x.hear(1, row("k"));
        CHECK.due("29: wet oak hears k of r", 4, x::which);
        x.rain(1, false);
        CHECK.due("29: dry oak hears k of kk", 1, x::which);
        for (int n = 2; n <= 8; n++) {
            CHECK.due("28: how much", n, () -> x.hear(0, LONGEST));
        }
        CHECK.due("28: there are 8", -1, () -> x.hear(0, 1));
        CHECK.due("28: refused again", 2, () -> x.count(10));
        CHECK.missing("28: no such door", () -> x.hear(4, 5));
        CHECK.missing("28: below 0", () -> x.hear(-1, 1));
        CHECK.due("28: not refused", 2, () -> x.count(10));
        CHECK.due("28: no act", 2, () -> x.count(5));
    }

    /** Promise 30. */
    private static void listen() {
        KnockBook x = Check.told("thing kp 1;thing kr 1;thing kk 1;thing p 2;oak k;glass k;pine k;felt k;");
        CHECK.due("30: pine tells four", 2, () -> x.listen(0));
        CHECK.due("30: four", 4, () -> x.listen(1));
        x.hear(0, row("k"));
        x.hear(1, row("kk"));
        CHECK.due("30: kr, kk", 6, x::which);
        CHECK.due("30: pine ahead of felt", 2, () -> x.listen(0));
        CHECK.due("30: two", 2, () -> x.listen(1));
        x.hear(3, row("kr"));
        CHECK.due("30: one word: the first door", 0, () -> x.listen(0));
        CHECK.due("30: one", 1, () -> x.listen(1));
        x.hear(0, 0);
        CHECK.due("30: no words left", -1, () -> x.listen(0));
        CHECK.due("30: none", 0, () -> x.listen(1));
        CHECK.missing("30: another what", () -> x.listen(2));
        CHECK.missing("30: below 0", () -> x.listen(-1));
        CHECK.due("30: no doors", -1, () -> Check.told("thing k 1;").listen(0));
        CHECK.due("30: no doors, none", 0, () -> Check.told("thing k 1;").listen(1));
    }

    /** Promise 32. */
    private static void telegraph() {
        KnockBook x = Check.told(TEXT);
        CHECK.due("32: pine to oak: kk, r", 5, () -> x.telegraph(0, 1));
        CHECK.due("32: oak to pine: its hand's", 3, () -> x.telegraph(1, 0));
        CHECK.due("32: oak to itself", 1, () -> x.telegraph(1, 1));
        CHECK.due("32: pine to glass: r is k there, pr is pk, kk is as near", 3, () -> x.telegraph(0, 3));
        CHECK.missing("32: no such door", () -> x.telegraph(4, 0));
        CHECK.missing("32: no such other", () -> x.telegraph(0, 4));
        CHECK.missing("32: below 0", () -> x.telegraph(-1, 0));
    }

    /** Promise 33. */
    private static void game() {
        KnockBook x = Check.told(TEXT);
        CHECK.due("33: r and kk", 1, () -> x.game(0, 1, 0));
        CHECK.due("33: 10 by 2 and 0", 20, () -> x.game(0, 1, 1));
        CHECK.due("33: the other way round", 2, () -> x.game(1, 0, 1));
        CHECK.missing("33: another what", () -> x.game(0, 0, 2));
        CHECK.missing("33: no such door", () -> x.game(4, 4, 0));
        CHECK.missing("33: no such other", () -> x.game(0, 4, 0));
        CHECK.illegal("33: both are one", () -> x.game(2, 2, 1));
        KnockBook y = Check.told("thing k 30;thing p 25;thing r 5;pine kpr;pine kpr;pine k;pine s;");
        CHECK.due("33: 30 and 25, either way", 2, () -> y.game(0, 1, 0));
        CHECK.due("33: the first", 1, () -> y.game(0, 1, 1));
        CHECK.due("33: one can but k, the other shuns it", 1, () -> y.game(2, 0, 0));
        CHECK.due("33: k and p", 1, () -> y.game(2, 0, 1));
        CHECK.due("33: a hand that can none", 0, () -> y.game(0, 3, 0));
        CHECK.due("33: none", -1, () -> y.game(0, 3, 1));
        y.worth(0, 45);
        CHECK.due("33: 45 less 20 is not less than 25", 3, () -> y.game(0, 1, 0));
        CHECK.due("33: both k, the first", 0, () -> y.game(0, 1, 1));
        y.worth(0, 46);
        CHECK.due("33: 46 less 20 is more", 1, () -> y.game(0, 1, 0));
        KnockBook z = Check.told("thing k 50;thing p 0;oak k;oak kp;");
        CHECK.due("33: oak hears nothing of p, so both knock k, and lose 20", 0, () -> z.game(0, 1, 1));
    }

    /** Promise 34. */
    private static void frost() {
        KnockBook x = Check.told("thing k 7;pine k;");
        CHECK.due("34: one word is always nearest", 60, () -> x.frost(1, 60, 0));
        CHECK.due("34: its worth so often", 420, () -> x.frost(1, 60, 1));
        // 1 by hand: 1103527590, 2524885223, 662824084: bits 16 to 30 of the third are 10113, MOD 4 is 1
        CHECK.due("34: the last sound is lost", 1, () -> x.frost(1, 1, 2));
        // 0 by hand: 12345, 3554416254, 2802067423: bits 16 to 30 of the third are 9988, MOD 4 is 0
        CHECK.due("34: the first sound is lost", 1, () -> x.frost(0, 1, 2));
        // 2 by hand: 2207042835, 1495354192, 2818548041: bits 16 to 30 of the third are 10239, MOD 4 is 3
        CHECK.due("34: nothing is lost", 0, () -> x.frost(2, 1, 2));
        CHECK.due("34: not once", 0, () -> x.frost(1, 0, 0));
        CHECK.missing("34: another what", () -> x.frost(1, -1, 3));
        CHECK.missing("34: what below 0", () -> x.frost(1, 1, -1));
        CHECK.illegal("34: below 0", () -> x.frost(1, -1, 0));
        CHECK.illegal("34: above 60", () -> x.frost(1, 61, 0));
        CHECK.due("34: no doors", 0, () -> Check.told("thing k 7;").frost(1, 60, 0));
        CHECK.due("34: no words", 0, () -> Check.told("pine k;").frost(1, 60, 2));
        KnockBook y = Check.told("thing p 3;thing s 9;felt k;");
        // each by hand: what is drawn of two WORDS and of 4; how often, WORTH, nothing
        int[][] once = {{8, 0, 0, 0}, {4, 1, 3, 1}, {5, 0, 0, 1}, {9, 1, 9, 0}};
        String[] why = {"p, a slide comes", "p, nothing", "s, the first is lost", "s, nothing"};
        for (int i = 0; i < once.length; i++) {
            int[] o = once[i];
            for (int what = 0; what < 3; what++) {
                int w = what;
                CHECK.due("34: " + why[i] + ", " + what, o[w + 1], () -> y.frost(o[0], 1, w));
            }
        }
        CHECK.due("34: nothing changes", 0, () -> y.count(5));
    }

    /** Promises 35 and 36. */
    private static void image() {
        KnockBook x = Check.told(TEXT);
        x.worth(0, 6);
        x.rain(1, true);
        x.hear(0, row("kk"));
        x.hear(0, 5);
        x.part(0, 9);
        x.image();
        x.die(0);
        x.rain(1, false);
        x.forget();
        x.hear(0, 5);
        x.part(0, 9);
        Check.tell(x, "x");
        x.feed(0, 0, 0, 0, 0);
        for (int again = 0; again < 2; again++) {
            CHECK.due("36: restored", true, x::restore);
            CHECK.due("36: words", 4, () -> x.count(0));
            CHECK.due("36: worth", 6, () -> x.word(0, 3));
            CHECK.due("36: wet", 2, () -> x.count(2));
            CHECK.due("36: acts", 2, () -> x.count(5));
            CHECK.due("36: heard", 1, () -> x.count(6));
            CHECK.due("36: what was", 1, x::which);
            CHECK.due("36: the tape is in no image", 20, () -> x.count(7));
            CHECK.due("36: status 0", 0, () -> x.count(8));
            CHECK.due("36: status 1", 1, () -> x.count(9));
            CHECK.due("36: status 2", 1, () -> x.count(10));
            x.die(2);
            x.rain(2, true);
        }
        x.image();
        CHECK.due("36: undone", 3, x::undo);
        CHECK.due("36: in place of the other", true, x::restore);
        CHECK.due("36: three words", 3, () -> x.count(0));
        CHECK.due("36: acts are the image's", 3, x::undo);
        CHECK.due("36: dry", 2, () -> x.count(2));
        CHECK.due("36: r is back", 2, x::undo);
        CHECK.due("36: four words", row("r"), () -> x.word(2, 0));
    }
}
