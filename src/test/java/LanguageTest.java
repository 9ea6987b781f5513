import java.io.IOException;
import java.lang.reflect.Field;
import java.lang.reflect.Method;
import java.lang.reflect.Modifier;
import java.nio.file.Files;
import java.nio.file.Path;
import java.util.ArrayList;
import java.util.List;
import java.util.regex.Matcher;
import java.util.regex.Pattern;

/** The rules of the language, as far as they can be seen from the class and from its text. */
public final class LanguageTest {
    private static final Due due = new Due();
    private static final Pattern COMMENT = Pattern.compile("//[^\n]*|/\\*.*?\\*/", Pattern.DOTALL);
    private static final Pattern METHOD = Pattern.compile("(?m)^( +)(?:private |public |static |final )*"
        + "(?:[\\w\\[\\]]+ )?\\w+\\([^;{}]*\\)[^;{}=]*\\{\n(.*?)^\\1\\}", Pattern.DOTALL);

    public static void main(String[] args) throws IOException {
        String text = COMMENT.matcher(Files.readString(Path.of("src/main/java/ZipArray.java"))).replaceAll("");
        words(text);
        exceptions(text);
        lengths(text);
        List<Class<?>> classes = new ArrayList<>();
        classes.add(ZipArray.class);
        classes.addAll(List.of(ZipArray.class.getDeclaredClasses()));
        due.is("rule 11: some twelve classes at most", classes.size() <= 12);
        for (Class<?> c : classes) {
            members(c);
        }
        due.finish();
    }

    private static int times(String text, String pattern) {
        int n = 0;
        for (Matcher m = Pattern.compile(pattern).matcher(text); m.find();) {
            n++;
        }
        return n;
    }

    private static void words(String text) {
        due.same("one file, without a package", times(text, "(?m)^package "), 0);
        due.same("imports", times(text, "(?m)^import (?!java\\.util\\.NoSuchElementException;)"), 0);
        for (String word : new String[] {"finally", "synchronized", "assert", "volatile", "native", "protected",
            "strictfp", "transient", "var", "yield", "sealed", "Object", "Thread", "Random", "Class", "hashCode",
            "toString", "getMessage"}) {
            due.same(word, times(text, "\\b" + word + "\\b"), 0);
        }
        due.same("rule 2: no lambda, no method reference", times(text, "->|::"), 0);
        due.same("rule 4: of System nothing but arraycopy", times(text, "\\bSystem\\.(?!arraycopy\\b)"), 0);
        due.same("rule 4: of Math nothing on doubles, nothing exact", times(text, "\\bMath\\.(?!max\\b|min\\b|abs\\b)"), 0);
        due.same("rule 5: no static initialiser", times(text, "\\bstatic\\s*\\{"), 0);
    }

    private static void exceptions(String text) {
        String allowed = "(IllegalState|IllegalArgument|IndexOutOfBounds|Arithmetic|UnsupportedOperation|NoSuchElement)"
            + "Exception";
        due.same("rule 6: what is thrown", times(text, "\\bthrow\\b"), times(text, "\\bthrow new " + allowed + "\\(\\);"));
        due.same("rule 6: try", times(text, "\\btry\\b"), times(text, "\\bcatch\\b"));
    }

    private static void lengths(String text) {
        int methods = 0;
        for (Matcher m = METHOD.matcher(text); m.find();) {
            methods++;
            String first = m.group().trim().lines().findFirst().orElse("");
            due.is("rule 11: some sixty lines at most: " + first, m.group(2).lines().count() <= 60);
        }
        // The methods, and the constructors but for one that is not written out.
        int declared = ZipArray.class.getDeclaredMethods().length + 1;
        for (Class<?> c : ZipArray.class.getDeclaredClasses()) {
            declared += c.getDeclaredMethods().length + times(text, "(?m)^ +" + c.getSimpleName() + "\\(.*\\{$");
        }
        due.same("all methods are found", methods, declared);
    }

    private static void members(Class<?> c) {
        int fields = 0;
        for (Field f : c.getDeclaredFields()) {
            boolean shared = Modifier.isStatic(f.getModifiers());
            fields += shared ? 0 : 1;
            due.is("rule 5: " + f, !shared || Modifier.isFinal(f.getModifiers()) && isConstant(f.getType()));
        }
        due.is("rule 11: some twenty fields at most: " + c, fields <= 20);
        for (Method m : c.getDeclaredMethods()) {
            due.is("rule 11: at most seven parameters: " + m, m.getParameterCount() <= 7);
        }
    }

    private static boolean isConstant(Class<?> type) {
        return List.of(int.class, long.class, boolean.class, char.class, String.class, int[].class, long[].class,
            char[].class, byte[].class).contains(type);
    }
}
