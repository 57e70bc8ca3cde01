import java.io.IOException;
import java.lang.reflect.Constructor;
import java.lang.reflect.Field;
import java.lang.reflect.Method;
import java.lang.reflect.Modifier;
import java.nio.file.Files;
import java.nio.file.Path;
import java.util.Arrays;
import java.util.TreeSet;
import java.util.stream.Collectors;

/** The public face is the document's and no more, and the source has none of the words that LANGUAGE.md rules out. */
public final class FaceTest {
    private static final String NO_SET = " throws IndexOutOfBoundsException";
    private static final String NOT_ALLOWED = " throws IllegalArgumentException";
    private static final String BOTH = " throws IndexOutOfBoundsException,IllegalArgumentException";
    private static final String[] METHODS = {
        "int feed(int,int,int,int,int)", "boolean end(int)", "boolean ground(int,int)", "int sheet(int,int)" + BOTH,
        "boolean put(int,int,boolean)" + NO_SET, "boolean has(int,int)" + NO_SET, "int size(int)" + NO_SET,
        "int at(int,int)" + NO_SET + ",NoSuchElementException", "int law(int,int,int,int,boolean)", "int drop()",
        "int clash(int)" + NO_SET, "int witness(int) throws NoSuchElementException", "int room(int)" + NO_SET,
        "int greatest(int,int)" + BOTH, "int list(int)" + NOT_ALLOWED, "int listed(int,int)" + NO_SET,
        "int kinds(int)" + NOT_ALLOWED, "int kind(int,int,int)" + NOT_ALLOWED, "int count(int)" + NOT_ALLOWED,
        "int colours(int,int)" + NOT_ALLOWED, "int colour(int)", "int forced(int,int)" + NOT_ALLOWED,
        "int sums(int,int,int,int)" + NO_SET, "int energy(int)" + NO_SET, "int order(int)" + NO_SET,
        "int keep(int,int)" + BOTH, "int look(int)"
    };
    private static final String[] RULED_OUT = {
        "->", "::", "Exact(", "finally", "synchronized", "assert ", "volatile", "catch", "getMessage", "hashCode",
        "toString", ".equals(", "Random", "System.out", "System.nano", "System.current", "Thread", "java.io",
        "static {", "protected", "package ", "double", "float", "instanceof", "clone()"
    };

    private FaceTest() {
    }

    private static String names(Class<?>[] types) {
        return Arrays.stream(types).map(Class::getSimpleName).collect(Collectors.joining(","));
    }

    private static String told(Method method) {
        String thrown = names(method.getExceptionTypes());
        return names(new Class<?>[] {method.getReturnType()}) + " " + method.getName() + "("
            + names(method.getParameterTypes()) + ")" + (thrown.isEmpty() ? "" : " throws " + thrown);
    }

    private static void members() {
        TreeSet<String> methods = new TreeSet<>();
        TreeSet<String> hidden = new TreeSet<>();
        TreeSet<String> names = new TreeSet<>();
        for (Method method : SumBench.class.getDeclaredMethods()) {
            if (Modifier.isPrivate(method.getModifiers())) {
                hidden.add(method.getName());
                continue;
            }
            Due.is(method + " is public, not static", Modifier.isPublic(method.getModifiers())
                && !Modifier.isStatic(method.getModifiers()), true);
            methods.add(told(method));
            names.add(method.getName());
        }
        Due.same("the methods", methods.toString(), new TreeSet<>(Arrays.asList(METHODS)).toString());
        for (Class<?> inside : SumBench.class.getDeclaredClasses()) {
            Due.is(inside + " is static", Modifier.isStatic(inside.getModifiers()), true);
            for (Method method : inside.getDeclaredMethods()) {
                hidden.add(method.getName());
            }
        }
        hidden.retainAll(names);
        Due.same("other methods with names of the face", hidden.toString(), "[]");
    }

    private static void others() {
        Due.is("the class is public", Modifier.isPublic(SumBench.class.getModifiers()), true);
        Due.is("the class is final", Modifier.isFinal(SumBench.class.getModifiers()), true);
        Constructor<?>[] makers = SumBench.class.getDeclaredConstructors();
        Due.is("constructors", makers.length, 1);
        Due.is("the constructor is public", Modifier.isPublic(makers[0].getModifiers()), true);
        Due.is("what the constructor takes", makers[0].getParameterCount(), 0);
        for (Field field : SumBench.class.getDeclaredFields()) {
            boolean none = field.getName().equals("NONE");
            Due.is(field + " is private", Modifier.isPrivate(field.getModifiers()), !none);
            if (Modifier.isStatic(field.getModifiers())) {
                Due.is(field + " is final", Modifier.isFinal(field.getModifiers()), true);
            }
        }
        Due.is("NONE", SumBench.NONE, -1);
    }

    private static void source() throws IOException {
        String text = Files.readString(Path.of("src/main/java/SumBench.java"));
        for (String word : RULED_OUT) {
            Due.is("the source has " + word, text.contains(word), false);
        }
        for (String line : text.split("\n")) {
            if (line.startsWith("import ")) {
                Due.is(line, line.equals("import java.util.Arrays;")
                    || line.equals("import java.util.NoSuchElementException;"), true);
            }
        }
    }

    /** Rule 11, as far as it can be counted here: classes, fields beside constants, parameters. */
    private static void sizes() {
        Class<?>[] inside = SumBench.class.getDeclaredClasses();
        Due.is("more than twelve classes", inside.length + 1 > 12, false);
        sizesOf(SumBench.class);
        for (Class<?> one : inside) {
            sizesOf(one);
        }
    }

    private static void sizesOf(Class<?> one) {
        int fields = 0;
        for (Field field : one.getDeclaredFields()) {
            fields += Modifier.isStatic(field.getModifiers()) ? 0 : 1;
        }
        Due.is("more than twenty fields in " + one, fields > 20, false);
        for (Method method : one.getDeclaredMethods()) {
            Due.is("more than seven parameters of " + method, method.getParameterCount() > 7, false);
        }
    }

    /** README.md says that no call makes an array or an object: each is made with a field, or in a loop of Laws(..). */
    private static void makers() throws IOException {
        for (String line : Files.readAllLines(Path.of("src/main/java/SumBench.java"))) {
            String code = line.strip();
            if (code.contains("new ") && !code.startsWith("throw new ")) {
                Due.is(code, code.startsWith("private final ") || code.equals("rows[i] = new Law();"), true);
            }
        }
    }

    public static void main(String[] args) throws IOException {
        members();
        others();
        source();
        sizes();
        makers();
        Due.end("FaceTest");
    }
}
