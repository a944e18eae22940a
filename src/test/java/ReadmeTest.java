import java.io.File;
import java.io.IOException;
import java.lang.reflect.Field;
import java.lang.reflect.Method;
import java.lang.reflect.Modifier;
import java.net.URL;
import java.net.URLClassLoader;
import java.nio.file.Files;
import java.nio.file.Path;
import java.util.ArrayList;
import java.util.List;
import java.util.TreeSet;
import java.util.function.BiConsumer;
import java.util.regex.Matcher;
import java.util.regex.Pattern;
import javax.tools.JavaCompiler;
import javax.tools.ToolProvider;

/**
 * The examples of README.md, compiled and run as they stand: behind a call stands, as a comment, what
 * it answers. Each method and constant of the class must be shown so, and each test must be named.
 */
public final class ReadmeTest {
    private static final Pattern ANSWERED = Pattern.compile("\\s*(mill\\.(\\w+)\\(.*\\));\\s*// (-?\\d+|[A-Z]+)(: .*)?");
    private static final String NAME = "ReadmeExamples";

    private final List<String> lines;
    private final StringBuilder members = new StringBuilder();
    private final StringBuilder calls = new StringBuilder();
    private final TreeSet<String> shown = new TreeSet<>();
    private int examples;

    private ReadmeTest(List<String> lines) {
        this.lines = lines;
    }

    public static void main(String[] args) throws IOException {
        if (args.length < 3) {
            throw new IllegalArgumentException("the paths of MillSails.java, of DOC.md and of README.md are needed");
        }
        Path page = Path.of(args[2]);
        ReadmeTest test = new ReadmeTest(Files.readAllLines(page));
        test.readExamples();
        Due.test("each example answers as it says", test::runExamples);
        Due.test("each method and constant is shown", test::allIsShown);
        String text = Files.readString(page);
        Due.test("it says how the tests are run", () -> namesTests(text, Path.of("src", "test", "java"), page));
        Due.end("ReadmeTest");
    }

    /** A block of Java is a member if it begins with static, else the body of a method of its own. */
    private void readExamples() {
        for (int i = 0; i < lines.size(); i++) {
            if (!lines.get(i).equals("```java")) {
                continue;
            }
            int first = i + 1;
            for (i = first; i < lines.size() && !lines.get(i).equals("```"); i++) {
                Due.isTrue("line " + (i + 1) + " tells an answer, or has no comment",
                        !lines.get(i).contains("//") || ANSWERED.matcher(lines.get(i)).matches());
            }
            Due.isTrue("the block from line " + first + " has an end", i < lines.size());
            addBlock(first, i);
        }
    }

    private void addBlock(int from, int behind) {
        boolean isMember = from < behind && lines.get(from).startsWith("static ");
        String name = "example" + from;
        if (!isMember) {
            examples++;
            calls.append(name).append("(due);\n");
            members.append("static void ").append(name).append("(BiConsumer<String, long[]> due) {\n");
        }
        for (int i = from; i < behind; i++) {
            members.append(isMember ? lines.get(i) : asked(i)).append('\n');
        }
        members.append(isMember ? "" : "}\n");
    }

    /** A line with an answer, so that both are handed out to be compared. */
    private String asked(int i) {
        Matcher line = ANSWERED.matcher(lines.get(i));
        if (!line.matches()) {
            return lines.get(i);
        }
        String call = line.group(1);
        String answer = line.group(3);
        shown.add(line.group(2));
        shown.add(answer);
        String due = Character.isUpperCase(answer.charAt(0)) ? "MillSails." + answer : answer;
        return "due.accept(\"README.md line " + (i + 1) + ": " + call + "\", new long[] {" + call + ", " + due + "});";
    }

    private String program() {
        return "import java.util.function.BiConsumer;\npublic final class " + NAME + " {\n" + members
                + "public static void all(BiConsumer<String, long[]> due) {\n" + calls + "}\n}\n";
    }

    private void runExamples() {
        Due.isTrue("there are examples", examples > 0);
        try {
            Path folder = Files.createTempDirectory("readme");
            Path source = folder.resolve(NAME + ".java");
            Files.writeString(source, program());
            JavaCompiler compiler = ToolProvider.getSystemJavaCompiler();
            Due.isTrue("there is a compiler", compiler != null);
            if (compiler != null) {
                int code = compiler.run(null, null, null, "-cp", System.getProperty("java.class.path"),
                        "-d", folder.toString(), source.toString());
                Due.is("the examples compile: exit code", code, 0);
                if (code == 0) {
                    call(folder);
                }
            }
            for (File file : folder.toFile().listFiles()) {
                Files.delete(file.toPath());
            }
            Files.delete(folder);
        } catch (IOException | ReflectiveOperationException e) {
            throw new IllegalStateException("the examples could not be run", e);
        }
    }

    private static void call(Path folder) throws IOException, ReflectiveOperationException {
        BiConsumer<String, long[]> due = (call, both) -> Due.is(call, both[0], both[1]);
        try (URLClassLoader loader = new URLClassLoader(new URL[] {folder.toUri().toURL()})) {
            loader.loadClass(NAME).getMethod("all", BiConsumer.class).invoke(null, due);
        }
    }

    private void allIsShown() {
        for (Method method : MillSails.class.getDeclaredMethods()) {
            if (Modifier.isPublic(method.getModifiers())) {
                Due.isTrue(method.getName() + "() is shown with an answer", shown.contains(method.getName()));
            }
        }
        for (Field constant : MillSails.class.getDeclaredFields()) {
            if (Modifier.isPublic(constant.getModifiers())) {
                Due.isTrue(constant.getName() + " is shown as an answer", shown.contains(constant.getName()));
            }
        }
    }

    /** The tests stand beside the page, wherever this was called from. */
    private static void namesTests(String text, Path tests, Path page) {
        File[] files = page.toAbsolutePath().getParent().resolve(tests).toFile().listFiles();
        List<String> names = new ArrayList<>();
        for (File file : files == null ? new File[0] : files) {
            if (file.getName().endsWith("Test.java")) {
                names.add(file.getName().replace(".java", ""));
            }
        }
        Due.isTrue("tests were found", names.contains("ReadmeTest"));
        for (String name : names) {
            Due.isTrue(name + " is named", text.contains("`" + name + "`"));
        }
        Due.isTrue(".ci/run is named", text.contains("\n    bash .ci/run\n"));
    }
}
