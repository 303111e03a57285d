/** What the document says of a TEXT's limits: of each the last that is still allowed, the first that no longer is. */
public final class TextBoundariesTest {
    private static final Check CHECK = new Check();
    private static final String TEN = "thing k 0;thing p 1;thing r 2;thing s 3;thing kk 4;"
        + "deed kp 5;deed kr 6;deed ks 7;deed pk 8;prayer pp 99;";
    private static final String NINE = TEN.substring(0, TEN.indexOf("prayer"));
    private static final String FIVE = "pine k;oak p;felt r;glass s;pine kprs;";
    private static final String SIX = FIVE + "pine srpk;";

    private TextBoundariesTest() {
    }

    public static void main(String[] args) {
        length();
        firstBytes();
        bytesOfTokens();
        numbers();
        rows();
        hands();
        wordsAndDoors();
        allAnew();
        nots();
        depth();
        longRules();
        arithmetic();
        firstAndLeast();
        endsTooSoon();
        CHECK.end();
    }

    private static void due(int fault, String marked) {
        CHECK.fault(fault, marked);
    }

    private static String times(String s, int n) {
        return s.repeat(n);
    }

    /** "A TEXT of at most 600 bytes tells it": the 600th counts, and no byte behind the told ones does. */
    private static void length() {
        String full = "thing k 1;" + times(" ", 583) + "pine k;";
        CHECK.due("600 bytes", 600, full::length);
        due(0, full);
        KnockBook full600 = Check.told(full);
        CHECK.due("600 bytes: the last line is told", 1, () -> full600.count(1));
        due(1, full.substring(0, 599) + "^");
        due(1, times("\n", 599) + "^#");
        cut("thing k 123;", 9, 1, 9);
        cut("thing k 123;", 10, 1, 10);
        cut("thing k 123;", 11, 2, 8);
        cut("thing k 99;#", 11, 0, -1);
        cut("thing kp 9;", 7, 1, 7);
        cut("thing kkkkkkk 9;", 12, 1, 12);
        cut("thing kkkkkkk 9;", 13, 2, 6);
        cut("joins 12345;", 10, 1, 10);
        cut("joins 12345;", 11, 2, 6);
        cut("thing", 4, 1, 0);
        cut("thing", 0, 0, -1);
        cut("#", 0, 0, -1);
        cut("  \n #", 4, 0, -1);
        cut("  \n #", 5, 1, 4);
    }

    /** The tape has the whole text, but only its first n bytes are the BOOK. */
    private static void cut(String tape, int n, int fault, int place) {
        KnockBook x = new KnockBook();
        for (int[] f : Check.feeds(tape.getBytes(java.nio.charset.StandardCharsets.ISO_8859_1))) {
            x.feed(f[0], f[1], f[2], f[3], f[4]);
        }
        CHECK.due(n + " bytes of " + tape, fault, () -> x.book(n));
        CHECK.due("place in " + n + " bytes of " + tape, place, x::fault);
        CHECK.due("empty behind " + n + " bytes of " + tape, 0, () -> x.count(7));
    }

    /** Each byte as the whole of a text: blanks (32, 10) count for nothing, no other one is a BOOK. */
    private static void firstBytes() {
        for (char b = 0; b < 256; b++) {
            boolean blank = b == 32 || b == 10;
            cut(String.valueOf(b), 1, blank ? 0 : 1, blank ? -1 : 0);
        }
    }

    /** Each byte between a ROW and a NUMBER, between two NUMBERS, behind a sign: what goes on with a TOKEN, and what ends it. */
    private static void bytesOfTokens() {
        for (char b = 0; b < 256; b++) {
            boolean blank = b == 32 || b == 10;
            boolean digit = b >= '0' && b <= '9';
            boolean letter = b >= 'a' && b <= 'z';
            if (b == '^') {
                continue;
            }
            if (blank || digit || "kprs".indexOf(b) >= 0) {
                due(0, "thing k" + b + "5;");
            } else if (letter) {
                due(3, "thing ^k" + b + "5;");
            } else {
                due(1, "thing k^" + b + "5;");
            }
            if (digit || "+-*/<=".indexOf(b) >= 0) {
                due(0, "joins 1" + b + "1;");
            } else if (blank || b == ';') {
                due(1, "joins 1" + b + "^1;");
            } else {
                due(1, "joins 1^" + b + "1;");
            }
            if (blank) {
                due(0, "pine" + b + "k" + b + ";" + b + "oak k;");
            }
        }
    }

    /** "NUMBERS (1 to 4 digits)", "a NUMBER of 5 digits or more, or (not in an EXPR) not as told", WORTH 0 to 99. */
    private static void numbers() {
        due(0, "thing k 0;");
        due(0, "thing k 0000;");
        due(0, "thing k 99;");
        due(0, "thing k 0099;");
        due(2, "thing k ^100;");
        due(2, "thing k ^0100;");
        due(2, "thing k ^9999;");
        due(2, "thing k ^00000;");
        due(2, "thing k ^00099;");
        due(2, "thing k ^" + times("0", 500) + ";");
        due(2, "thing k ^4294967297;");
        due(0, "joins 0;");
        due(0, "joins 100;");
        due(0, "joins 9999;");
        due(0, "joins 0000;");
        due(2, "joins ^10000;");
        due(2, "joins ^00000;");
        due(2, "joins 1=^" + times("9", 500) + ";");
        due(1, "joins 1 ^00000;");
        due(1, "thing ^00000 5;");
        due(1, "thing k 99 ^00000;");
        KnockBook x = Check.told("thing k 0;deed p 99;prayer r 0099;thing s 0007;");
        CHECK.due("worth 0", 0, () -> x.word(0, 3));
        CHECK.due("worth 99", 99, () -> x.word(1, 3));
        CHECK.due("worth 0099", 99, () -> x.word(2, 3));
        CHECK.due("worth 0007", 7, () -> x.word(3, 3));
        CHECK.due("9999 is 9999", 1, () -> Check.told("thing k 1;joins 9999=100*100-1;").read(6, 0));
        CHECK.due("0010 is ten", 1, () -> Check.told("thing k 1;joins 0010=5+5;").read(6, 0));
    }

    /** "a ROW of 1 to 6 SOUNDS (no two alike)", "a ROW of 7 SOUNDS or more". */
    private static void rows() {
        due(0, "thing k 1;");
        due(0, "thing ssssss 1;");
        due(2, "thing ^sssssss 1;");
        due(2, "thing ^" + times("kprs", 140) + " 1;");
        due(3, "thing ^sssssx 1;");
        due(3, "thing ^ssssssx 1;");
        due(3, "thing ^xssssss 1;");
        due(3, "thing ^" + times("kprs", 140) + "a 1;");
        due(1, "thing ^1;");
        due(0, "thing k 1;thing kk 1;thing kkk 1;thing kkkk 1;thing kkkkk 1;thing kkkkkk 1;");
        due(4, "thing k 1;thing kk 1;deed ^k 2;");
        due(4, NINE + "prayer ^pk 8;");
        due(4, "thing kprskp 1;prayer p 1;deed ^kprskp 1;");
        due(2, "thing k 1;deed ^kkkkkkk 2;");
        KnockBook x = Check.told("thing k 1;thing ssssss 1;");
        CHECK.due("one sound", 1, () -> x.word(0, 1));
        CHECK.due("six sounds", 6, () -> x.word(1, 1));
        CHECK.due("the greatest number", 15624, () -> x.word(1, 0));
    }

    /** "a HAND (.. SOUNDS that he can do, at least one)", "in any order, each once at the most". */
    private static void hands() {
        due(1, "pine ^;");
        due(0, "pine k;");
        due(0, "pine kprs;");
        due(0, "pine srpk;");
        for (String s : new String[] {"k", "p", "r", "s"}) {
            due(4, "pine ^" + s + s + ";");
            due(4, "pine ^kprs" + s + ";");
            due(4, "pine ^" + s + "kprs;");
        }
        due(4, "pine ^kprskprskprs;");
        due(3, "pine ^kkx;");
        due(3, "pine ^kprst;");
        due(3, "pine ^kprsj;");
        KnockBook x = Check.told("pine k;oak p;felt r;glass s;pine srpk;pine rk;");
        int[] hands = {1, 2, 4, 8, 15, 5};
        for (int i = 0; i < hands.length; i++) {
            int door = i;
            CHECK.due("hand " + i, hands[i], () -> x.door(door, 1));
            CHECK.due("not wet at first " + i, 0, () -> x.door(door, 2));
        }
    }

    /** "WORDS (at most 10)", "DOORS (at most 6)", "the first TOKEN of the 11th WORD, the 7th DOOR". */
    private static void wordsAndDoors() {
        due(0, TEN);
        due(0, SIX);
        due(0, SIX + TEN);
        due(0, TEN + "joins 1;" + SIX);
        for (String part : new String[] {"thing", "deed", "prayer"}) {
            due(0, NINE + part + " ss 1;");
            due(2, TEN + "^" + part + " ss 1;");
            due(2, TEN + "^" + part);
            due(2, TEN + SIX + "^" + part + " k 1;");
        }
        for (String wood : new String[] {"pine", "oak", "felt", "glass"}) {
            due(0, FIVE + wood + " k;");
            due(2, SIX + "^" + wood + " k;");
            due(2, SIX + "^" + wood);
            due(2, SIX + TEN + "^" + wood + " kk;");
        }
        due(1, TEN + SIX + "^things k 1;");
        KnockBook x = Check.told(SIX + TEN);
        CHECK.due("ten words", 10, () -> x.count(0));
        CHECK.due("six doors", 6, () -> x.count(1));
        CHECK.due("the tenth", 12, () -> x.word(9, 0));
        CHECK.due("the sixth", 15, () -> x.door(5, 1));
    }

    /** "are a BOOK, all anew": what was told ahead of it, by a BOOK or by a TEXT with a FAULT, is no limit to it. */
    private static void allAnew() {
        KnockBook x = Check.told(TEN + SIX + "joins 1;");
        CHECK.due("all again", 0, () -> Check.tell(x, TEN + SIX + "joins 1;"));
        CHECK.due("all but the end", 1, () -> Check.tell(x, TEN + SIX + "joins 1;#"));
        CHECK.due("all once more", 0, () -> Check.tell(x, TEN + SIX + "joins 1;"));
        CHECK.due("nothing", 0, () -> Check.tell(x, ""));
        CHECK.due("no words", 0, () -> x.count(0));
        CHECK.due("no doors", 0, () -> x.count(1));
        CHECK.due("no fault", -1, x::fault);
        Check.tell(x, "joins 0;");
        x.take(1, 0, 0);
        CHECK.due("by the rule k can't follow k", 0, () -> x.read(6, 0));
        Check.tell(x, "");
        x.take(1, 0, 0);
        CHECK.due("the rule is gone", 1, () -> x.read(6, 0));
        CHECK.due("a second joins", 5, () -> Check.tell(x, "joins 1;joins 1;"));
        CHECK.due("the first one again", 0, () -> Check.tell(x, "joins 1;"));
        due(0, "joins 0;");
        due(5, "joins 0;^joins 0;");
        due(5, "joins 0;" + TEN + "^joins");
    }

    /** "the seventh 'not' side by side". */
    private static void nots() {
        String six = times("not ", 6);
        due(0, "joins " + six + "1;");
        due(2, "joins " + six + "^not 1;");
        due(2, "joins " + six + "^not not 1;");
        due(2, "joins " + six + "^not;");
        due(2, "joins " + six + "^not");
        due(0, "joins " + six + "1 and " + six + "1 or " + six + "1;");
        due(2, "joins " + six + "1 and " + six + "^not 1;");
        due(2, "joins 1 or " + six + "^not 1;");
        due(0, "joins " + six + "(" + six + "1);");
        due(2, "joins (" + six + "^not 1);");
        due(0, "joins " + six + "(1)=" + "(" + six + "1);");
        due(3, "joins " + six + "^or;");
        due(1, "joins " + six + "^;");
        CHECK.due("six of them", 1, () -> Check.told("thing k 1;joins " + six + "5;").read(6, 0));
        CHECK.due("five of them", 0, () -> Check.told("thing k 1;joins " + six.substring(4) + "5;").read(6, 0));
        CHECK.due("six of 0", 0, () -> Check.told("thing k 1;joins " + six + "0;").read(6, 0));
    }

    /** "the first TOKEN .. of an EXPR within 6 others (a NUMBER, any word, a parenthesis)". */
    private static void depth() {
        String five = times("(", 5);
        String back = times(")", 5);
        due(0, "joins " + five + "1" + back + ";");
        due(0, "joins " + five + "not left" + back + ";");
        due(0, "joins " + five + "1" + back + "+" + five + "1" + back + "*" + five + "1" + back + ";");
        due(0, "joins not " + times("(not ", 5) + "1" + back + ";");
        for (String first : new String[] {"0", "9999", "10000", "left", "same", "not", "and", "or", "thing", "joins", "x", "("}) {
            due(2, "joins " + five + "(^" + first + " 1)" + back + ";");
        }
        for (String first : new String[] {")", ";", "+", "-", "*", "/", "<", "=", "#", "A", "\t"}) {
            due(1, "joins " + five + "(^" + first + " 1)" + back + ";");
        }
        due(1, "joins " + five + "( ^");
        due(2, "joins 1+" + five + "1+(^1)" + back + ";");
        due(2, "joins 1 or (1 and (not (1<(1+(1*(^1))))));");
        due(0, "joins 1 or (1 and (not (1<(1+(1*1)))));");
        due(2, "joins " + five + "1" + back + "=" + five + "(^1)" + back + ";");
        CHECK.due("five deep", 1, () -> Check.told("thing k 1;joins 1=(2-(3-(4-(5-(6-3)))));").read(6, 0));
        CHECK.due("five deep, not so", 0, () -> Check.told("thing k 1;joins 2=(2-(3-(4-(5-(6-3)))));").read(6, 0));
    }

    /** As long as a TEXT can be, an EXPR has no end of its own; the most that can stand open at once does stand. */
    private static void longRules() {
        String ones = "thing k 1;joins 1" + times("+1", 289) + "=290;";
        CHECK.due("600 bytes of ones", 600, ones::length);
        CHECK.due("so many ones", 1, () -> Check.told(ones).read(6, 0));
        CHECK.due("one fewer", 0, () -> Check.told(ones.replace("1+1", "1-1")).read(6, 0));
        String ors = "thing k 1;joins 0" + times(" or 0", 115) + " or 1 ; ";
        CHECK.due("600 bytes of or", 600, ors::length);
        CHECK.due("so many ors", 1, () -> Check.told(ors).read(6, 0));
        // each level tells whether what is within it is 0, and there are five of them
        String open = "joins " + times("0 or 1 and 1=1+1*(", 5);
        String back = times(")", 5) + ";thing k 1;";
        CHECK.due("all that can stand open, of 0", 1, () -> Check.told(open + "0 or 1 and 1=1+1*1" + back).read(6, 0));
        CHECK.due("all that can stand open, of 1", 0, () -> Check.told(open + "0 or 1 and 1=1+0*1" + back).read(6, 0));
    }

    private static void holds(boolean due, String rule) {
        CHECK.due("rule " + rule, due ? 1 : 0, () -> Check.told("thing k 1;joins " + rule + ";").read(6, 0));
    }

    /** "ints that wrap, / cut down to 0, by 0 gives 0; tests, not, and, or are 1 or 0 (what isn't 0 holds)". */
    private static void arithmetic() {
        String least = "(8192*8192*32)";
        holds(true, "0<(4634*10)*(4634*10)");
        holds(true, "(4634*10+1)*(4634*10+1)<0");
        holds(true, least + "<0");
        holds(true, "0<" + least + "-1");
        holds(true, least + "=" + least + "-1+1");
        holds(true, least + "<" + least + "-1");
        holds(true, least + "/(0-1)=" + least);
        holds(true, least + "*(0-1)=" + least);
        holds(true, least + "+" + least + "=0");
        holds(true, "0-" + least + "=" + least);
        holds(true, least);
        holds(false, least + "*2");
        holds(true, "7/2=3");
        holds(true, "(0-7)/2=0-3");
        holds(true, "7/(0-2)=0-3");
        holds(true, "(0-7)/(0-2)=3");
        holds(true, "1/2=0");
        holds(true, "(0-1)/2=0");
        holds(true, "1/0=0");
        holds(true, "(0-1)/0=0");
        holds(true, "0/0=0");
        holds(true, least + "/0=0");
        holds(true, "9999/(same-1)=0");
        holds(true, "(0-1)");
        holds(true, "2");
        holds(false, "0");
        String[] values = {"0", "1", "2", "(0-1)"};
        for (int a = 0; a < values.length; a++) {
            for (int b = 0; b < values.length; b++) {
                holds(a > 0 && b > 0, values[a] + " and " + values[b]);
                holds(a > 0 || b > 0, values[a] + " or " + values[b]);
            }
            holds(a == 0, "not " + values[a]);
        }
        holds(true, "(2 and 3)=1");
        holds(true, "(0-1 or 0)=1");
        holds(true, "(not 2)=0");
        holds(true, "(not 0)=1");
        holds(true, "(1<2)=1");
        holds(true, "(2<2)=0");
        holds(true, "(2<1)=0");
        holds(true, "(2=2)=1");
        holds(true, "(2=1)=0");
    }

    /** "the first along the text, at a TOKEN's first byte, of one TOKEN the least". */
    private static void firstAndLeast() {
        due(3, "thing ^x 100;#");
        due(2, "thing k ^100;thing k 1;");
        due(4, "thing k 1;thing ^k 100;");
        due(1, "thing k 1^#00000;");
        due(2, "thing ^kkkkkkk x;");
        due(3, "thing ^kkkkkkkx 1;");
        due(3, "pine ^kkx;");
        due(2, "joins ((((((^x))))));");
        due(2, "joins ((((((^12345))))));");
        due(1, "joins ((((((^)12345;");
        due(2, "joins not not not not not not ^not x;");
        due(1, "\n \n^abc");
        due(2, "thing\n\nk\n\n^12345");
        due(5, "joins 1;\n ^joins x;");
        due(3, "joins 1+^not;");
        due(1, "^left 1;");
    }

    /** "the text's length where it ends too soon", blanks at its end too. */
    private static void endsTooSoon() {
        for (String text : new String[] {"thing", "thing k", "thing k 5", "pine", "pine kprs", "joins", "joins not", "joins 1", "joins 1 or",
            "joins 1 and", "joins 1<", "joins 1=", "joins 1+", "joins 1-", "joins 1*", "joins 1/", "joins (", "joins (1", "joins left"}) {
            due(1, text + "^");
            due(1, text + " \n ^");
            due(1, "thing s 1;" + text + "^");
        }
        due(0, "thing k 5;  ");
        due(0, "joins 1;");
    }
}
