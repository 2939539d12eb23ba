import java.lang.reflect.Constructor;
import java.lang.reflect.Field;
import java.lang.reflect.Method;
import java.lang.reflect.Modifier;
import java.util.Arrays;
import java.util.Set;
import java.util.TreeSet;

/** The class has the document's face and no more that can be seen from outside. */
public final class FaceTest {
    private static final Checks checks = new Checks();

    private static final String[] METHODS = {
        "public boolean teach(int,int,boolean) IndexOutOfBoundsException IllegalStateException",
        "public int told(int,int) IndexOutOfBoundsException",
        "public int size()",
        "public void forget()",
        "public int learn()",
        "public int states()",
        "public int next(int,int) IndexOutOfBoundsException",
        "public int sign(int) IndexOutOfBoundsException",
        "public boolean accepts(int,int) IndexOutOfBoundsException IllegalStateException",
        "public void draft(int) IllegalArgumentException",
        "public void define(int,boolean,int,int) IllegalStateException IndexOutOfBoundsException",
        "public int least() IllegalStateException",
        "public int name(int) IllegalStateException IndexOutOfBoundsException",
        "public int apart(int,int) IllegalStateException IndexOutOfBoundsException",
        "public int exemplify() IllegalStateException IllegalArgumentException",
        "public boolean same() IllegalStateException",
    };

    public static void main(String[] args) {
        Class<?> face = WordClassLearner.class;
        checks.equal("the class", Modifier.toString(face.getModifiers()), "public final");
        checks.equal("NONE", WordClassLearner.NONE, -1);
        checks.equal("methods", methods(face), new TreeSet<>(Arrays.asList(METHODS)));
        checks.equal("fields", fields(face), Set.of("public static final int NONE"));
        Constructor<?>[] constructors = face.getDeclaredConstructors();
        checks.equal("constructors", constructors.length, 1);
        checks.equal("the constructor", constructors[0].toString(), "public WordClassLearner()");
        for (Class<?> inside : face.getDeclaredClasses()) {
            checks.equal(inside + " is static", Modifier.isStatic(inside.getModifiers()), true);
        }
        checks.end();
    }

    private static Set<String> methods(Class<?> face) {
        Set<String> found = new TreeSet<>();
        for (Method method : face.getDeclaredMethods()) {
            if (!Modifier.isPrivate(method.getModifiers())) {
                StringBuilder text = new StringBuilder(method.toString()
                        .replace("WordClassLearner.", "").replaceAll(" throws .*", ""));
                for (Class<?> thrown : method.getExceptionTypes()) {
                    text.append(' ').append(thrown.getSimpleName());
                }
                found.add(text.toString());
            }
        }
        return found;
    }

    private static Set<String> fields(Class<?> face) {
        Set<String> found = new TreeSet<>();
        for (Field field : face.getDeclaredFields()) {
            if (!Modifier.isPrivate(field.getModifiers())) {
                found.add(field.toString().replace("WordClassLearner.", ""));
            }
        }
        return found;
    }
}
