import java.io.IOException;
import java.io.StringWriter;
import java.lang.reflect.Method;
import java.lang.reflect.Modifier;
import java.net.URL;
import java.net.URLClassLoader;
import java.nio.file.Files;
import java.nio.file.Path;
import java.util.Arrays;
import java.util.List;
import java.util.Set;
import java.util.TreeSet;
import java.util.regex.Matcher;
import java.util.regex.Pattern;
import java.util.stream.Collectors;
import java.util.stream.Stream;
import javax.tools.JavaCompiler;
import javax.tools.StandardJavaFileManager;
import javax.tools.ToolProvider;

/** What README.md shows: its blocks of Java are compiled and run as they stand, each call against its answer. */
public final class ReadmeTest {
    /** Public, as the page's calls run in a class that is loaded by itself. */
    public interface Answers {
        void due(String call, long got, long want);
    }

    private static final Pattern BLOCK = Pattern.compile("```java\n(.*?)```", Pattern.DOTALL);
    private static final Pattern CALL = Pattern.compile("(x\\.\\w+\\(.*\\)); +// (-?\\d+|[A-Z]+)(: .*)?");
    private static final Pattern OBJECT = Pattern.compile("(HeapEnds )?x = new HeapEnds\\(\\);");
    private static final Pattern TEXT = Pattern.compile("feed\\(x, \"[^\"]*\"\\);");
    private static final Pattern NUMBERED = Pattern.compile("\\| `?([A-Z]+)`? \\| (-\\d+) \\|");

    public static void main(String[] args) throws Exception {
        String page = Files.readString(Path.of("README.md"));
        run(calls(page));
        numbersOfAnswers(page);
        allCallsAreShown(page);
        allTestsAreNamed(page);
        Due.end("ReadmeTest");
    }

    private static void dueTrue(String what, boolean is) {
        Due.due(what, is ? 1 : 0, 1);
    }

    /** The page's calls as a class; a line that shows no answer to look at is not as due. */
    private static String calls(String page) {
        StringBuilder members = new StringBuilder();
        StringBuilder lines = new StringBuilder();
        Matcher block = BLOCK.matcher(page);
        while (block.find()) {
            if (block.group(1).startsWith("static ")) {
                members.append(block.group(1));
                continue;
            }
            for (String line : block.group(1).split("\n")) {
                Matcher call = CALL.matcher(line);
                if (call.matches()) {
                    String answer = call.group(2).matches("[A-Z]+") ? "HeapEnds." + call.group(2) : call.group(2);
                    lines.append("answers.due(\"" + call.group(1) + "\", " + call.group(1) + ", " + answer + ");\n");
                } else {
                    dueTrue("shown without an answer: " + line,
                        OBJECT.matcher(line).matches() || TEXT.matcher(line).matches());
                    lines.append(line).append('\n');
                }
            }
        }
        return "public final class Page {\n" + members
            + "public static void run(ReadmeTest.Answers answers) {\n" + lines + "}\n}\n";
    }

    private static void run(String source) throws Exception {
        Path folder = Files.createTempDirectory("page");
        Path file = folder.resolve("Page.java");
        Path compiled = folder.resolve("Page.class");
        try {
            Files.writeString(file, source);
            StringWriter said = new StringWriter();
            JavaCompiler javac = ToolProvider.getSystemJavaCompiler();
            try (StandardJavaFileManager files = javac.getStandardFileManager(null, null, null)) {
                boolean well = javac.getTask(said, files, null, List.of("-Xlint:all", "-proc:none",
                    "-classpath", System.getProperty("java.class.path"), "-d", folder.toString()), null,
                    files.getJavaFileObjects(file)).call();
                dueTrue("the page's calls can be compiled: " + said, well && said.toString().isEmpty());
                if (!well) {
                    return;
                }
            }
            try (URLClassLoader loader = new URLClassLoader(new URL[] {folder.toUri().toURL()})) {
                Answers answers = Due::due;
                loader.loadClass("Page").getMethod("run", Answers.class).invoke(null, answers);
            }
        } finally {
            Files.deleteIfExists(file);
            Files.deleteIfExists(compiled);
            Files.deleteIfExists(folder);
        }
    }

    /** The table of refusals and findings, against the constants and what is told of findings. */
    private static void numbersOfAnswers(String page) {
        List<String> findings = List.of("NULL", "PLACE", "KIND", "SIZE", "STORE");
        Set<String> seen = new TreeSet<>();
        Matcher row = NUMBERED.matcher(page);
        while (row.find()) {
            String name = row.group(1);
            seen.add(name);
            int finding = findings.indexOf(name) + 1;
            int number = finding > 0 ? -1000010 - finding : constant(name);
            Due.due(name, Integer.parseInt(row.group(2)), number);
        }
        Due.due("numbers in the table: " + seen, seen.size(), 8);
        dueTrue("NONE is told", page.contains("`NONE`, " + HeapEnds.NONE + ","));
    }

    private static int constant(String name) {
        try {
            return HeapEnds.class.getField(name).getInt(null);
        } catch (ReflectiveOperationException missing) {
            return 0;
        }
    }

    /** Each call of the face is shown with an answer, and stands in the table of what is refused. */
    private static void allCallsAreShown(String page) {
        String table = page.substring(page.indexOf("| call | refuses with |"));
        for (Method m : HeapEnds.class.getDeclaredMethods()) {
            if (Modifier.isPublic(m.getModifiers())) {
                String name = m.getName();
                dueTrue(name + " is shown", page.contains("\nx." + name + "("));
                dueTrue(name + " is told with what it refuses",
                    Pattern.compile("\n\\|[^|\n]*`" + name + "`[^|\n]*\\|").matcher(table).find());
            }
        }
    }

    private static void allTestsAreNamed(String page) throws IOException {
        Set<String> named = new TreeSet<>();
        Matcher row = Pattern.compile("\n\\| (\\w+Test) \\|").matcher(page);
        while (row.find()) {
            named.add(row.group(1));
        }
        try (Stream<Path> files = Files.list(Path.of("src/test/java"))) {
            Set<String> there = files.map(f -> f.getFileName().toString().replace(".java", ""))
                .collect(Collectors.toCollection(TreeSet::new));
            dueTrue("the tests are " + there + ", not " + named, there.equals(named));
        }
    }
}
