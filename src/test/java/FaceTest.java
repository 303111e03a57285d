import java.lang.reflect.Constructor;
import java.lang.reflect.Field;
import java.lang.reflect.Method;
import java.lang.reflect.Modifier;
import java.util.HashSet;
import java.util.Set;
import java.util.TreeSet;

/** The public face: just what the document has, and nothing else that can be seen from outside. */
public final class FaceTest {
    private static final String NSE = "NoSuchElementException";
    private static final String IAE = "IllegalArgumentException";
    private static final String[] FACE = {
        "int feed(int,int,int,int,int)",
        "int book(int) " + IAE,
        "int fault()",
        "int count(int) " + NSE,
        "int word(int,int) " + NSE,
        "int door(int,int) " + NSE,
        "int hears(int,int) " + NSE + " " + IAE,
        "long read(int,int) " + NSE + " " + IAE,
        "int reading(int,int) " + IAE + " " + NSE,
        "int apart(int,int) " + IAE,
        "int nearest(int,int) " + NSE + " " + IAE,
        "int take(int,int,int)",
        "int die(int) " + NSE,
        "int worth(int,int) " + NSE,
        "int part(int,int) " + NSE,
        "boolean rain(int,boolean) " + NSE,
        "int undo()",
        "int mend(int) " + IAE,
        "int twoWays()",
        "int prefixes()",
        "int tellApart()",
        "int newWord(int) " + IAE,
        "int span(int,int) " + NSE,
        "int closest(int) " + NSE,
        "int said(int) " + IAE,
        "long howMany(int) " + IAE,
        "int hear(int,int) " + NSE,
        "int which()",
        "int listen(int) " + NSE,
        "void forget()",
        "int telegraph(int,int) " + NSE,
        "int game(int,int,int) " + NSE + " " + IAE,
        "int frost(int,int,int) " + NSE + " " + IAE,
        "void image()",
        "boolean restore()"};
    private static final Check CHECK = new Check();

    private FaceTest() {
    }

    public static void main(String[] args) {
        CHECK.due("public and final", "public final", () -> Modifier.toString(KnockBook.class.getModifiers()));
        Set<String> names = new HashSet<>();
        Set<String> seen = new TreeSet<>();
        for (Method m : KnockBook.class.getDeclaredMethods()) {
            if (!Modifier.isPrivate(m.getModifiers())) {
                seen.add(told(m));
                names.add(m.getName());
            }
        }
        CHECK.due("the methods", new TreeSet<>(Set.of(FACE)), () -> seen);
        constructorsAndFields();
        for (Class<?> inside : KnockBook.class.getDeclaredClasses()) {
            CHECK.due(inside + " is static", true, () -> Modifier.isStatic(inside.getModifiers()));
            noPrivateNamesake(inside, names);
            keepsMeasure(inside);
        }
        noPrivateNamesake(KnockBook.class, names);
        keepsMeasure(KnockBook.class);
        CHECK.due("some twelve classes", true, () -> KnockBook.class.getDeclaredClasses().length < 13);
        CHECK.end();
    }

    private static String told(Method m) {
        StringBuilder s = new StringBuilder(m.getReturnType() + " " + m.getName() + "(");
        String between = "";
        for (Class<?> type : m.getParameterTypes()) {
            s.append(between).append(type);
            between = ",";
        }
        s.append(')');
        for (Class<?> type : m.getExceptionTypes()) {
            s.append(' ').append(type.getSimpleName());
        }
        return s.toString();
    }

    private static void constructorsAndFields() {
        Constructor<?>[] made = KnockBook.class.getDeclaredConstructors();
        CHECK.due("one constructor", 1, () -> made.length);
        CHECK.due("of no arguments", 0, () -> made[0].getParameterCount());
        CHECK.due("that is public", true, () -> Modifier.isPublic(made[0].getModifiers()));
        for (Field f : KnockBook.class.getDeclaredFields()) {
            if (!Modifier.isPrivate(f.getModifiers())) {
                CHECK.due("the constant", "NONE public static final", () -> f.getName() + " " + Modifier.toString(f.getModifiers()));
            }
            boolean isStatic = Modifier.isStatic(f.getModifiers());
            CHECK.due(f + " is final, if static", true, () -> !isStatic || Modifier.isFinal(f.getModifiers()));
        }
        CHECK.due("NONE", -1, () -> KnockBook.NONE);
    }

    private static void noPrivateNamesake(Class<?> owner, Set<String> names) {
        for (Method m : owner.getDeclaredMethods()) {
            boolean isOurs = Modifier.isPrivate(m.getModifiers()) && names.contains(m.getName());
            CHECK.due(owner.getSimpleName() + "." + m.getName() + " bears the face's name", false, () -> isOurs);
        }
    }

    /** LANGUAGE.md's rule 11: seven parameters, some twenty fields beside the constants. */
    private static void keepsMeasure(Class<?> owner) {
        for (Method m : owner.getDeclaredMethods()) {
            CHECK.due(owner.getSimpleName() + "." + m.getName() + " takes few", true, () -> m.getParameterCount() <= 7);
        }
        int fields = 0;
        for (Field f : owner.getDeclaredFields()) {
            fields += Modifier.isStatic(f.getModifiers()) ? 0 : 1;
        }
        int counted = fields;
        CHECK.due(owner.getSimpleName() + " has few fields", true, () -> counted <= 20);
    }
}
