import java.io.IOException;
import java.lang.reflect.Constructor;
import java.lang.reflect.Field;
import java.lang.reflect.Method;
import java.lang.reflect.Modifier;
import java.nio.file.Files;
import java.nio.file.Path;
import java.util.Arrays;
import java.util.TreeSet;

/** The public face is the document's and no more, and the source has none of the words that LANGUAGE.md rules out. */
public final class FaceTest {
    private static final String[] METHODS = {
        "int feed(int,int,int,int,int)", "boolean end(int)", "boolean ground(int,int)", "int sheet(int,int)",
        "boolean put(int,int,boolean)", "boolean has(int,int)", "int size(int)", "int at(int,int)",
        "int law(int,int,int,int,boolean)", "int drop()", "int clash(int)", "int witness(int)", "int room(int)",
        "int greatest(int,int)", "int list(int)", "int listed(int,int)", "int kinds(int)", "int kind(int,int,int)",
        "int count(int)", "int colours(int,int)", "int colour(int)", "int forced(int,int)", "int sums(int,int,int,int)",
        "int energy(int)", "int order(int)", "int keep(int,int)", "int look(int)"
    };
    private static final String[] RULED_OUT = {
        "->", "::", "Exact(", "finally", "synchronized", "assert ", "volatile", "catch", "getMessage", "hashCode",
        "toString", ".equals(", "Random", "System.out", "System.nano", "System.current", "Thread", "java.io",
        "static {", "protected", "package ", "double", "float", "instanceof", "clone()"
    };

    private FaceTest() {
    }

    private static String told(Method method) {
        StringBuilder text = new StringBuilder(method.getReturnType().getName());
        text.append(' ').append(method.getName()).append('(');
        for (Class<?> type : method.getParameterTypes()) {
            text.append(text.charAt(text.length() - 1) == '(' ? "" : ",").append(type.getName());
        }
        return text.append(')').toString();
    }

    private static void members() {
        TreeSet<String> methods = new TreeSet<>();
        TreeSet<String> hidden = new TreeSet<>();
        TreeSet<String> names = new TreeSet<>();
        for (Method method : SumBench.class.getDeclaredMethods()) {
            if (Modifier.isPrivate(method.getModifiers())) {
                hidden.add(method.getName());
                continue;
            }
            Due.is(method + " is public, not static", Modifier.isPublic(method.getModifiers())
                && !Modifier.isStatic(method.getModifiers()), true);
            methods.add(told(method));
            names.add(method.getName());
        }
        Due.same("the methods", methods.toString(), new TreeSet<>(Arrays.asList(METHODS)).toString());
        for (Class<?> inside : SumBench.class.getDeclaredClasses()) {
            Due.is(inside + " is static", Modifier.isStatic(inside.getModifiers()), true);
            for (Method method : inside.getDeclaredMethods()) {
                hidden.add(method.getName());
            }
        }
        hidden.retainAll(names);
        Due.same("other methods with names of the face", hidden.toString(), "[]");
    }

    private static void others() {
        Due.is("the class is public", Modifier.isPublic(SumBench.class.getModifiers()), true);
        Due.is("the class is final", Modifier.isFinal(SumBench.class.getModifiers()), true);
        Constructor<?>[] makers = SumBench.class.getDeclaredConstructors();
        Due.is("constructors", makers.length, 1);
        Due.is("the constructor is public", Modifier.isPublic(makers[0].getModifiers()), true);
        Due.is("what the constructor takes", makers[0].getParameterCount(), 0);
        for (Field field : SumBench.class.getDeclaredFields()) {
            boolean none = field.getName().equals("NONE");
            Due.is(field + " is private", Modifier.isPrivate(field.getModifiers()), !none);
            if (Modifier.isStatic(field.getModifiers())) {
                Due.is(field + " is final", Modifier.isFinal(field.getModifiers()), true);
            }
        }
        Due.is("NONE", SumBench.NONE, -1);
    }

    private static void source() throws IOException {
        String text = Files.readString(Path.of("src/main/java/SumBench.java"));
        for (String word : RULED_OUT) {
            Due.is("the source has " + word, text.contains(word), false);
        }
        for (String line : text.split("\n")) {
            if (line.startsWith("import ")) {
                Due.is(line, line.equals("import java.util.Arrays;")
                    || line.equals("import java.util.NoSuchElementException;"), true);
            }
        }
    }

    public static void main(String[] args) throws IOException {
        members();
        others();
        source();
        Due.end("FaceTest");
    }
}
