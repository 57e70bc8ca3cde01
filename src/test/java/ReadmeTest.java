import java.io.IOException;
import java.lang.reflect.Method;
import java.lang.reflect.Modifier;
import java.nio.charset.StandardCharsets;
import java.nio.file.Files;
import java.nio.file.Path;
import java.util.ArrayList;
import java.util.Comparator;
import java.util.List;
import java.util.TreeSet;
import java.util.regex.Matcher;
import java.util.regex.Pattern;
import java.util.stream.Stream;

/** README.md says what holds: its example answers what stands beside it, its commands run, its table has every test. */
public final class ReadmeTest {
    private static final Path README = Path.of("README.md");
    private static final Path SOURCES = Path.of("src");

    private ReadmeTest() {
    }

    /** The lines of the blocks of one language, in turn. */
    private static List<List<String>> blocks(String language) throws IOException {
        List<List<String>> blocks = new ArrayList<>();
        String open = null;
        for (String line : Files.readAllLines(README)) {
            if (line.startsWith("```")) {
                open = open == null ? line.substring(3) : null;
                if (language.equals(open)) {
                    blocks.add(new ArrayList<>());
                }
            } else if (language.equals(open)) {
                blocks.get(blocks.size() - 1).add(line);
            }
        }
        return blocks;
    }

    /** What a shell prints for these lines, and its exit code behind it; it stops at the first that fails. */
    private static List<String> run(Path folder, List<String> lines) throws IOException, InterruptedException {
        Process shell = new ProcessBuilder("sh", "-e", "-c", String.join("\n", lines))
            .directory(folder.toFile()).redirectError(ProcessBuilder.Redirect.INHERIT).start();
        String printed = new String(shell.getInputStream().readAllBytes(), StandardCharsets.UTF_8);
        List<String> all = new ArrayList<>(printed.lines().toList());
        all.add("exit code " + shell.waitFor());
        return all;
    }

    /** What stands beside the lines that print: from the sign of a comment to a colon or the end. */
    private static List<String> beside(List<String> example) {
        Pattern answer = Pattern.compile("System\\.out\\.println\\(.*\\); *// ([^:]+)(:.*)?");
        List<String> answers = new ArrayList<>();
        for (String line : example) {
            Matcher match = answer.matcher(line.strip());
            if (match.matches()) {
                answers.add(match.group(1));
            }
        }
        answers.add("exit code 0");
        return answers;
    }

    private static void example(Path folder) throws IOException, InterruptedException {
        List<String> example = blocks("java").get(0);
        Files.write(folder.resolve("Example.java"), example);
        List<String> want = beside(example);
        long printing = example.stream().filter(line -> line.contains("System.out")).count();
        Due.is("lines of the example with an answer beside them", want.size() - 1, printing);
        Due.same("the example", run(folder, blocks("sh").get(0)).toString(), want.toString());
    }

    private static void commands(Path folder) throws IOException, InterruptedException {
        List<String> tests = blocks("sh").get(1);
        Due.same("the command for the tests", tests.toString(), "[.ci/run]");
        Due.is(tests + " can be run", Files.isExecutable(Path.of(tests.get(0))), true);
        List<String> printed = run(folder, blocks("sh").get(2));
        Due.same("other runs", printed.get(printed.size() - 1), "exit code 0");
    }

    private static void table() throws IOException {
        TreeSet<String> files = new TreeSet<>();
        try (Stream<Path> all = Files.list(Path.of("src/test/java"))) {
            all.map(path -> path.getFileName().toString().replace(".java", ""))
                .filter(name -> name.endsWith("Test")).forEach(files::add);
        }
        TreeSet<String> told = new TreeSet<>();
        for (String line : Files.readAllLines(README)) {
            Matcher name = Pattern.compile("`(\\w+Test)`").matcher(line);
            while (line.startsWith("|") && name.find()) {
                told.add(name.group(1));
            }
        }
        Due.same("tests of the table", told.toString(), files.toString());
    }

    /** The calls that the tables tell are those of the face. */
    private static void calls() throws IOException {
        String text = Files.readString(README);
        for (Method method : SumBench.class.getDeclaredMethods()) {
            if (Modifier.isPublic(method.getModifiers())) {
                Due.is("README.md names " + method.getName(), text.contains("`" + method.getName() + "`"), true);
            }
        }
    }

    private static void copySources(Path folder) throws IOException {
        try (Stream<Path> all = Files.walk(SOURCES)) {
            for (Path from : all.toList()) {
                Files.copy(from, folder.resolve(from));
            }
        }
    }

    private static void remove(Path folder) throws IOException {
        try (Stream<Path> all = Files.walk(folder)) {
            for (Path path : all.sorted(Comparator.reverseOrder()).toList()) {
                Files.delete(path);
            }
        }
    }

    public static void main(String[] args) throws IOException, InterruptedException {
        Path folder = Files.createTempDirectory("readme");
        try {
            copySources(folder);
            example(folder);
            commands(folder);
        } finally {
            remove(folder);
        }
        table();
        calls();
        Due.end("ReadmeTest");
    }
}
