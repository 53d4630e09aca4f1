import java.io.IOException;
import java.lang.reflect.Method;
import java.lang.reflect.Modifier;
import java.net.URL;
import java.net.URLClassLoader;
import java.nio.file.Files;
import java.nio.file.Path;
import java.util.ArrayList;
import java.util.List;
import java.util.Set;
import java.util.TreeSet;
import java.util.function.BiConsumer;
import java.util.regex.Matcher;
import java.util.regex.Pattern;
import javax.tools.JavaCompiler;
import javax.tools.ToolProvider;

/**
 * README.md's examples answer as README.md says. They are compiled as they stand there, so that who
 * copies them has something that works.
 */
public final class ReadmeExamples {
    private static final Path README = Path.of("README.md");
    private static final Path PLACE = Path.of("build", "readme");
    private static final String NAME = "ReadmeCalls";

    private static final Pattern NEW_OBJECT = Pattern.compile("LinkKeeper keeper = new LinkKeeper\\(\\);");
    private static final Pattern CALL = Pattern.compile(
        "(?:int (?<kept>\\w+) = )?(?<call>keeper\\.(?<name>\\w+)\\([^()]*\\));\\s*// (?<due>-?\\d+|NONE)(?:: .+)?");

    private static final List<String> WRONG = new ArrayList<>();
    private static final Set<String> CALLED = new TreeSet<>();
    private static int written = 0;
    private static int answered = 0;

    private ReadmeExamples() {
    }

    public static void main(String[] args) throws Exception {
        List<List<String>> examples = readExamples();
        if (examples.isEmpty()) {
            WRONG.add("there is no example");
        }
        String source = writeSource(examples);
        if (WRONG.isEmpty()) {
            run(source);
        }
        lookForEachCallOfTheFace();
        if (answered != written) {
            WRONG.add(written + " calls are written, " + answered + " answered");
        }
        WRONG.forEach(System.out::println);
        System.out.println(examples.size() + " examples, " + answered + " calls, " + WRONG.size() + " faults");
        if (!WRONG.isEmpty()) {
            System.exit(1);
        }
    }

    /** The lines of each part of README.md that is marked as Java. */
    private static List<List<String>> readExamples() throws IOException {
        List<List<String>> examples = new ArrayList<>();
        List<String> open = null;
        for (String line : Files.readAllLines(README)) {
            if (line.strip().equals("```java")) {
                open = new ArrayList<>();
                examples.add(open);
            } else if (line.strip().startsWith("```")) {
                open = null;
            } else if (open != null) {
                open.add(line.strip());
            }
        }
        return examples;
    }

    private static String writeSource(List<List<String>> examples) {
        StringBuilder source = new StringBuilder("public final class " + NAME + " {\n");
        StringBuilder all = new StringBuilder();
        for (int k = 0; k < examples.size(); k++) {
            source.append(head("example" + k));
            for (String line : examples.get(k)) {
                source.append(writeLine(k, line));
            }
            source.append("}\n");
            all.append("example").append(k).append("(told);\n");
        }
        return source.append(head("all")).append(all).append("}\n}\n").toString();
    }

    private static String head(String method) {
        return "public static void " + method + "(java.util.function.BiConsumer<String, int[]> told) {\n";
    }

    private static String writeLine(int example, String line) {
        if (line.isEmpty() || NEW_OBJECT.matcher(line).matches()) {
            return line + "\n";
        }
        Matcher m = CALL.matcher(line);
        if (!m.matches()) {
            WRONG.add("example " + example + ": no call with its answer: " + line);
            return "";
        }
        written++;
        CALLED.add(m.group("name"));
        String due = m.group("due").equals("NONE") ? "LinkKeeper.NONE" : m.group("due");
        String answer = m.group("call");
        String first = "";
        if (m.group("kept") != null) {
            first = line + "\n";
            answer = m.group("kept");
        }
        String place = "example " + example + ": " + m.group("call");
        return first + "told.accept(\"" + place + "\", new int[] {" + answer + ", " + due + "});\n";
    }

    private static void run(String source) throws Exception {
        Files.createDirectories(PLACE);
        Path file = PLACE.resolve(NAME + ".java");
        Files.writeString(file, source);
        JavaCompiler compiler = ToolProvider.getSystemJavaCompiler();
        int outcome = compiler.run(null, null, null, "-encoding", "UTF-8",
            "-cp", System.getProperty("java.class.path"), "-d", PLACE.toString(), file.toString());
        if (outcome != 0) {
            WRONG.add("the examples don't compile");
            return;
        }
        try (URLClassLoader loader = new URLClassLoader(new URL[] {PLACE.toUri().toURL()})) {
            BiConsumer<String, int[]> told = ReadmeExamples::look;
            loader.loadClass(NAME).getMethod("all", BiConsumer.class).invoke(null, told);
        }
    }

    private static void look(String call, int[] answerAndDue) {
        answered++;
        if (answerAndDue[0] != answerAndDue[1]) {
            WRONG.add(call + " answered " + answerAndDue[0] + ", README.md says " + answerAndDue[1]);
        }
    }

    private static void lookForEachCallOfTheFace() {
        for (Method m : LinkKeeper.class.getDeclaredMethods()) {
            if (Modifier.isPublic(m.getModifiers()) && !CALLED.contains(m.getName())) {
                WRONG.add("README.md has no example of " + m.getName());
            }
        }
    }
}
