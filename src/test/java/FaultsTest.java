/** Promises 3 and 4: FAULTS of a TEXT and their places, each by hand. */
public final class FaultsTest {
    private static final Check CHECK = new Check();
    private static final String TEN = "thing k 0;thing p 1;thing r 2;thing s 3;thing kk 4;"
        + "deed kp 5;deed kr 6;deed ks 7;deed pk 8;prayer pp 99;";
    private static final String SIX = "pine k;oak p;felt r;glass s;pine kprs;pine srpk;";

    private FaultsTest() {
    }

    private static void due(int fault, String marked) {
        CHECK.fault(fault, marked);
    }

    public static void main(String[] args) {
        asToldMustBe();
        cantStand();
        endsTooSoon();
        tooMuch();
        unknownWords();
        twice();
        inRules();
        deepRules();
        CHECK.end();
    }

    private static void asToldMustBe() {
        due(0, "");
        due(0, " \n ");
        due(0, TEN);
        due(0, SIX);
        due(0, TEN + SIX + "joins 1;");
        due(0, "joins 1;" + SIX + TEN);
        due(0, "thing\nk5;");
        due(0, "  thing  kkkkkk  0099  ;  ");
        due(0, "thing k 0;deed p 99;");
        due(0, "joins(1)+9999-0000*left/right<first+next;");
        due(0, "joins not not not not not not 1;");
        due(0, "joins not not not not not not(not not not not not not 1);");
        due(0, "joins 1 or not 1 and not 2 or same=long;");
    }

    private static void cantStand() {
        due(1, "^x");
        due(1, "^things k 1;");
        due(1, "^thin g k 1;");
        due(1, "^shing k 1;");
        due(1, "^thins k 1;");
        due(1, "^tining k;");
        due(1, "^zine k;");
        due(1, "^;");
        due(1, "thing k 1;^;");
        due(1, "^5");
        due(1, "^12345");
        due(1, "^#");
        due(1, "^Thing k 1;");
        due(1, "thing ^5 k;");
        due(1, "thing ^12345;");
        due(1, "thing ^; 5;");
        due(1, "thing k ^p;");
        due(1, "thing k ^-5;");
        due(1, "thing k ^;");
        due(1, "thing k 5 ^5;");
        due(1, "thing k 5 ^deed p 5;");
        due(1, "thing k^#5;");
        due(1, "thing\tk 5;".replace("\t", "^\t"));
        due(1, "thing k 5;^\r\n");
        due(1, "thing k 5;^\u0000");
        due(1, "thing k 5;^\u00e9");
        due(1, "pine ^5;");
        due(1, "pine ^;");
        due(1, "pine k ^p;");
        due(1, "pine k^5;");
        due(1, "^not;");
        due(1, "^left;");
    }

    private static void endsTooSoon() {
        due(1, "thing^");
        due(1, "thing  \n^");
        due(1, "thing k^");
        due(1, "thing k 5^");
        due(1, "thing k 5  ^");
        due(1, "pine^");
        due(1, "pine k^");
        due(1, "joins^");
        due(1, "joins 1^");
        due(1, "joins 1 +^");
        due(1, "joins (^");
        due(1, "joins (1^");
        due(1, "joins not^");
        due(1, "joins 1 or ^");
        due(1, "joins ((((((^");
    }

    private static void tooMuch() {
        due(2, "thing k ^100;");
        due(2, "thing k ^9999;");
        due(2, "thing k ^00001;");
        due(2, "thing k ^99999999999999999999;");
        due(2, "thing ^kkkkkkk 1;");
        due(2, "thing ^kkkkkkk x;");
        due(2, TEN + "^thing ss 1;");
        due(2, TEN + "^deed k");
        due(2, TEN + "^prayer");
        due(2, SIX + "^pine k;");
        due(2, SIX + "^glass x");
        due(2, "joins ^10000;");
        due(2, "joins 1+^00000;");
        due(2, "joins not not not not not not ^not 1;");
        due(2, "joins 1 and (not not not not not not ^not not 1);");
    }

    private static void unknownWords() {
        due(3, "thing ^kx 1;");
        due(3, "thing ^kkkkkkkkx 1;");
        due(3, "thing ^kz 1;");
        due(3, "thing ^ak 1;");
        due(3, "pine ^kaz;");
        due(3, "joins ^reft;");
        due(3, "joins ^fame;");
        due(3, "thing ^thing 1;");
        due(3, "thing ^joins");
        due(3, "pine ^kkx;");
        due(3, "pine ^x;");
        due(3, "joins ^x;");
        due(3, "joins ^thing;");
        due(3, "joins ^or 1;");
        due(3, "joins ^joins 1;");
        due(3, "joins 1+^not 1;");
        due(3, "joins 1<^not 1;");
        due(3, "joins 1*^and;");
        due(3, "joins not ^lefts;");
        due(3, "joins (^k);");
        due(3, "joins 1 or ^or 1;");
    }

    private static void twice() {
        due(4, "thing k 1;deed ^k 2;");
        due(4, "thing kkkkkk 1;deed k 2;prayer ^kkkkkk x;");
        due(4, "pine ^kk;");
        due(4, "pine ^kprsk;");
        due(4, "pine ^kprskprskprs;");
        due(0, "thing k 1;deed kk 2;pine k;oak k;");
        due(5, "joins 1;^joins 2;");
        due(5, "joins 1;thing k 1;^joins");
        due(1, "joins ^;joins 1;");
    }

    private static void inRules() {
        due(1, "joins ^;");
        due(1, "joins ^+1;");
        due(1, "joins 1 ^2;");
        due(1, "joins 1 ^12345;");
        due(1, "joins 1 ^left;");
        due(1, "joins 1 ^x;");
        due(1, "joins 1 ^not 2;");
        due(1, "joins 1 ^(2);");
        due(1, "joins 1^);");
        due(1, "joins (1^;");
        due(1, "joins (^);");
        due(1, "joins 1+^;");
        due(1, "joins 1+^-1;");
        due(1, "joins 1<2^<3;");
        due(1, "joins 1=2^<3;");
        due(0, "joins (1<2)<3;");
        due(1, "joins not ^;");
        due(1, "joins not ^=1;");
        due(1, "joins 1 or ^;");
        due(1, "joins 1 ^> 2;");
        due(1, "joins 1 ^thing k 1;");
        due(1, "joins 1+(2*^/3);");
    }

    /** An EXPR may be within 5 others; of one within 6 the first TOKEN is too much, if an EXPR can begin with it. */
    private static void deepRules() {
        due(0, "joins (((((1)))));");
        due(0, "joins (((((1)))))+(((((2))))) or not (((((not left)))));");
        due(2, "joins ((((((^1))))));");
        due(2, "joins ((((((^left))))));");
        due(2, "joins ((((((^not 1))))));");
        due(2, "joins ((((((^x))))));");
        due(2, "joins ((((((^or))))));");
        due(2, "joins ((((((^12345))))));");
        due(2, "joins ((((((^(1)))))));");
        due(1, "joins ((((((^);");
        due(1, "joins ((((((^;");
        due(1, "joins ((((((^+1))))));");
        due(1, "joins ((((((^#");
        due(2, "joins 1 or (2 and (3 < (4 + (5 * (not (^6))))));");
        due(3, "joins (((((^x)))));");
    }
}
