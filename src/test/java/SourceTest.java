import java.io.IOException;
import java.nio.file.Files;
import java.nio.file.Path;
import java.util.List;
import java.util.Set;
import java.util.TreeSet;
import java.util.regex.Matcher;
import java.util.regex.Pattern;

/** Of LANGUAGE.md what can be seen in the text of the program: rules 2, 4, 5, 6, 11 and 13. */
public final class SourceTest {
    private static final Check CHECK = new Check();
    private static final List<String> BARRED = List.of(
        "->", "::", "\\bcatch\\b", "\\btry\\b", "\\bfinally\\b", "\\bsynchronized\\b", "\\bassert\\b", "\\bnative\\b",
        "\\bvar\\b", "static \\{", "\\w+Exact\\b", "\\bSystem\\.(?!arraycopy\\b)", "\\bThread\\b", "\\bjava\\.(?!util\\.)",
        "\\[\\]\\[\\]\\[\\]", "\\bextends\\b", "static final (byte|short|double|float|boolean\\[)", "[^\\x00-\\x7f]");

    private SourceTest() {
    }

    public static void main(String[] args) throws IOException {
        String source = Files.readString(Path.of("src/main/java/KnockBook.java"));
        String code = source.replaceAll("(?s)/\\*.*?\\*/", "").replaceAll("//[^\\n]*", "").replaceAll("\"[^\"\\n]*\"", "\"\"");
        for (String pattern : BARRED) {
            CHECK.due("barred: " + pattern, false, () -> Pattern.compile(pattern).matcher(code).find());
        }
        Set<String> imports = new TreeSet<>();
        for (Matcher m = Pattern.compile("import ([\\w.]+);").matcher(code); m.find();) {
            imports.add(m.group(1));
        }
        CHECK.due("imports", "[java.util.Arrays, java.util.NoSuchElementException]", () -> imports);
        methodsAreShort(code);
        CHECK.end();
    }

    private static void methodsAreShort(String code) {
        String[] lines = code.split("\n");
        int begin = -1;
        String indent = "";
        for (int i = 0; i < lines.length; i++) {
            Matcher m = Pattern.compile("( {4}| {8})\\w[^=;]*\\(.*\\{").matcher(lines[i]);
            if (begin < 0 && m.lookingAt() && !lines[i].contains(" class ")) {
                begin = i;
                indent = m.group(1);
            } else if (begin >= 0 && lines[i].equals(indent + "}")) {
                int length = i - begin;
                CHECK.due("short: " + lines[begin], true, () -> length <= 60);
                begin = -1;
            }
        }
    }
}
