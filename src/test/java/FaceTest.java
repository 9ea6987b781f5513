import java.lang.reflect.Constructor;
import java.lang.reflect.Field;
import java.lang.reflect.Method;
import java.lang.reflect.Modifier;
import java.util.Arrays;
import java.util.Set;
import java.util.TreeSet;

/** The public face: just the document's, with what each method throws. */
public final class FaceTest {
    private static final String ARGUMENT = " java.lang.IllegalArgumentException";
    private static final String STATE = " java.lang.IllegalStateException";
    private static final String INDEX = " java.lang.IndexOutOfBoundsException";
    private static final String ARITHMETIC = " java.lang.ArithmeticException";
    private static final String UNSUPPORTED = " java.lang.UnsupportedOperationException";
    private static final String NO_ELEMENT = " java.util.NoSuchElementException";

    private static final String[] METHODS = {
        "int clear()",
        "int give(long, int)" + ARGUMENT + STATE,
        "int fill(int, int)" + ARGUMENT + STATE,
        "int held()",
        "int at(int)" + INDEX,
        "int crc()",
        "int pack()" + STATE,
        "int unpack()" + ARITHMETIC,
        "void create()",
        "void wide(boolean)",
        "int add(int, int, boolean)" + UNSUPPORTED + ARGUMENT + STATE,
        "int remove(int)" + UNSUPPORTED + NO_ELEMENT + STATE,
        "int load(int)" + UNSUPPORTED + NO_ELEMENT + ARITHMETIC,
        "int count()" + UNSUPPORTED,
        "int about(int, int)" + UNSUPPORTED + INDEX + ARGUMENT,
        "int check()",
        "int length()",
        "int byteAt(int)" + INDEX,
        "void poke(int, int)" + INDEX + ARGUMENT,
        "int put(long, int)" + ARGUMENT + STATE,
        "void cut(int)" + ARGUMENT,
    };

    public static void main(String[] args) {
        Due due = new Due();
        Class<?> c = ZipArray.class;
        due.is("the class is public and final",
            Modifier.isPublic(c.getModifiers()) && Modifier.isFinal(c.getModifiers()));
        Set<String> found = new TreeSet<>();
        Set<String> names = new TreeSet<>();
        for (Method m : c.getDeclaredMethods()) {
            if (Modifier.isPublic(m.getModifiers())) {
                found.add(told(m));
                names.add(m.getName());
            }
        }
        due.is("methods " + found, found.equals(new TreeSet<>(Arrays.asList(METHODS))));
        for (Method m : c.getDeclaredMethods()) {
            boolean open = Modifier.isPublic(m.getModifiers());
            due.is(m + " is public or private", open || Modifier.isPrivate(m.getModifiers()) || m.isSynthetic());
            due.is(m + " has a name of its own", open || !names.contains(m.getName()));
        }
        for (Field f : c.getDeclaredFields()) {
            due.is(f + " is private", f.getName().equals("NONE") || Modifier.isPrivate(f.getModifiers()));
            due.is(f + " is final", Modifier.isFinal(f.getModifiers()));
        }
        Constructor<?>[] made = c.getDeclaredConstructors();
        due.is("one public constructor", made.length == 1 && Modifier.isPublic(made[0].getModifiers())
            && made[0].getParameterCount() == 0);
        due.same("NONE", ZipArray.NONE, -1);
        for (Class<?> inside : c.getDeclaredClasses()) {
            due.is(inside + " is static", Modifier.isStatic(inside.getModifiers()));
        }
        due.finish();
    }

    private static String told(Method m) {
        StringBuilder b = new StringBuilder(m.getReturnType() + " " + m.getName() + "(");
        for (int i = 0; i < m.getParameterCount(); i++) {
            b.append(i == 0 ? "" : ", ").append(m.getParameterTypes()[i]);
        }
        b.append(")");
        for (Class<?> e : m.getExceptionTypes()) {
            b.append(" ").append(e.getName());
        }
        return b.toString();
    }
}
