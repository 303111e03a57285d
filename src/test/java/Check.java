import java.nio.charset.StandardCharsets;
import java.util.Arrays;
import java.util.concurrent.Callable;

/** What all tests share: answers that are due, and a tape fed with a text. */
final class Check {
    private int asked;
    private int wrong;

    /** The answer as a text; throws.NAME if the call throws. */
    static String answer(Callable<?> call) {
        try {
            return String.valueOf(call.call());
        } catch (Exception e) {
            return "throws." + e.getClass().getSimpleName();
        }
    }

    void due(String what, Object want, Callable<?> call) {
        String got = answer(call);
        asked++;
        if (!got.equals(String.valueOf(want))) {
            wrong++;
            System.out.println(what + " answered " + got + ", due is " + want);
        }
    }

    void missing(String what, Callable<?> call) {
        due(what, "throws.NoSuchElementException", call);
    }

    void illegal(String what, Callable<?> call) {
        due(what, "throws.IllegalArgumentException", call);
    }

    /** The place is where the mark ^ stands in the text, which is no part of it; without one there is no FAULT. */
    void fault(int fault, String marked) {
        KnockBook book = new KnockBook();
        due("fault of " + marked, fault, () -> tell(book, marked.replace("^", "")));
        due("place in " + marked, marked.indexOf('^'), book::fault);
        due("refused by " + marked, fault == 0 ? 0 : 1, () -> book.count(8));
    }

    void end() {
        System.out.println(asked + " answers asked for, " + wrong + " not as due");
        if (wrong != 0 || asked == 0) {
            System.exit(1);
        }
    }

    /** The text as calls of feed(), filled up with bytes that no BOOK could have. */
    static int[][] feeds(byte[] text) {
        int[][] feeds = new int[(text.length + 19) / 20][5];
        byte[] filled = Arrays.copyOf(text, feeds.length * 20);
        Arrays.fill(filled, text.length, filled.length, (byte) '#');
        for (int i = 0; i < filled.length; i++) {
            feeds[i / 20][i % 20 / 4] |= (filled[i] & 255) << (24 - i % 4 * 8);
        }
        return feeds;
    }

    static int tell(KnockBook book, String text) {
        byte[] bytes = text.getBytes(StandardCharsets.ISO_8859_1);
        for (int[] f : feeds(bytes)) {
            book.feed(f[0], f[1], f[2], f[3], f[4]);
        }
        return book.book(bytes.length);
    }

    static KnockBook told(String text) {
        KnockBook book = new KnockBook();
        int fault = tell(book, text);
        if (fault != 0) {
            throw new AssertionError("fault " + fault + " at " + book.fault() + " in " + text);
        }
        return book;
    }

    /** A ROW's number by its letters. */
    static int row(String sounds) {
        int row = 0;
        for (char c : sounds.toCharArray()) {
            row = row * 5 + "kprs".indexOf(c) + 1;
        }
        return row;
    }
}
