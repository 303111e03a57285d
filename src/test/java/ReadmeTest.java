import java.io.IOException;
import java.nio.file.Files;
import java.nio.file.Path;
import java.util.ArrayList;
import java.util.Arrays;
import java.util.List;
import java.util.concurrent.Callable;
import java.util.regex.Matcher;
import java.util.regex.Pattern;

/** README.md's example: its calls in their order, each with the answer that it tells, and each call of the face named. */
public final class ReadmeTest {
    private static final Check CHECK = new Check();
    private static final Pattern SHOWN = Pattern.compile("(?m)^(book\\.\\w+\\(.*?\\)) +// (throws )?(-?\\w+)");
    private static final List<String> shownCalls = new ArrayList<>();
    private static final List<String> shownAnswers = new ArrayList<>();
    private static int next;

    private ReadmeTest() {
    }

    public static void main(String[] args) throws IOException {
        String readme = Files.readString(Path.of("README.md"));
        for (Matcher m = SHOWN.matcher(readme); m.find();) {
            shownCalls.add(m.group(1));
            shownAnswers.add((m.group(2) == null ? "" : "throws.") + m.group(3));
        }
        KnockBook book = new KnockBook();
        String text = textShown(readme);
        CHECK.due("the text", 0, () -> tell(book, text));
        callsOf(book);
        CHECK.due("all that is shown was called", shownCalls.size(), () -> next);
        for (java.lang.reflect.Method m : KnockBook.class.getMethods()) {
            if (m.getDeclaringClass() == KnockBook.class) {
                CHECK.due(m.getName() + " is in the table", true, () -> readme.contains("`" + m.getName() + "`"));
            }
        }
        CHECK.end();
    }

    private static void callsOf(KnockBook book) {
        shown("book.fault()", book::fault);
        shown("book.count(0)", () -> book.count(0));
        shown("book.word(1, 0)", () -> book.word(1, 0));
        shown("book.hears(1, 163)", () -> book.hears(1, 163));
        shown("book.read(163, 0)", () -> book.read(163, 0));
        shown("book.read(163, 1)", () -> book.read(163, 1));
        shown("book.reading(163, 1)", () -> book.reading(163, 1));
        shown("book.nearest(33, 0)", () -> book.nearest(33, 0));
        shown("book.mend(33)", () -> book.mend(33));
        shown("book.take(4, 0, 9)", () -> book.take(4, 0, 9));
        shown("book.undo()", book::undo);
        shown("book.take(6, 0, 9)", () -> book.take(6, 0, 9));
        shown("book.count(9)", () -> book.count(9));
        shown("book.tellApart()", book::tellApart);
        shown("book.word(4, 0)", () -> book.word(4, 0));
        shown("book.hears(0, 5)", () -> book.hears(0, 5));
    }

    private static void shown(String call, Callable<?> real) {
        boolean isThere = next < shownCalls.size();
        CHECK.due("shown in its place", call, () -> isThere ? shownCalls.get(next) : "nothing");
        CHECK.due(call, isThere ? shownAnswers.get(next) : "nothing", real);
        next++;
    }

    private static String textShown(String readme) {
        Matcher m = Pattern.compile("tell\\(book, \"(.*)\"\\);").matcher(readme);
        return m.find() ? m.group(1) : "not told";
    }

    /** As README.md has it. */
    private static int tell(KnockBook book, String text) {
        int[] five = new int[5];
        for (int from = 0; from < text.length(); from += 20) {
            Arrays.fill(five, 0);
            for (int i = 0; i < 20 && from + i < text.length(); i++) {
                five[i / 4] |= text.charAt(from + i) << (24 - i % 4 * 8);
            }
            book.feed(five[0], five[1], five[2], five[3], five[4]);
        }
        return book.book(text.length());
    }
}
