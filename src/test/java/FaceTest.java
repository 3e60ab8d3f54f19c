import java.lang.reflect.Constructor;
import java.lang.reflect.Field;
import java.lang.reflect.Method;
import java.lang.reflect.Modifier;
import java.util.Set;
import java.util.TreeSet;

/** The public face is the document's, and nothing else can be seen from outside. */
public final class FaceTest {
    private static final Set<String> FACE = Set.of(
        "public int word(int)", "public int lineBreak()", "public int open(int)",
        "public int close()", "public void width(int)", "public int row(int)",
        "public int column(int)", "public int flat(int)", "public int rows()",
        "public int widest()", "public int leastWidth(int)");

    public static void main(String[] args) {
        Class<?> type = PrettyStream.class;
        Checks.due("public final class", type.getModifiers(), Modifier.PUBLIC | Modifier.FINAL);
        Set<String> seen = new TreeSet<>();
        for (Method method : type.getDeclaredMethods()) {
            if (!Modifier.isPrivate(method.getModifiers())) {
                seen.add(method.toGenericString().replace("PrettyStream.", ""));
            }
        }
        Checks.due("methods " + seen + " as in the document", seen.equals(FACE) ? 1 : 0, 1);
        Constructor<?>[] constructors = type.getDeclaredConstructors();
        Checks.due("constructors", constructors.length, 1);
        Checks.due("constructor " + constructors[0],
            constructors[0].toString().equals("public PrettyStream(int)") ? 1 : 0, 1);
        for (Field field : type.getDeclaredFields()) {
            Checks.due(field + " is private", Modifier.isPrivate(field.getModifiers()) ? 1 : 0, 1);
        }
        Checks.end();
    }
}
