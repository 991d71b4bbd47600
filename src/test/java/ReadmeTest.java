import java.io.IOException;
import java.lang.reflect.Method;
import java.lang.reflect.Modifier;
import java.net.URL;
import java.net.URLClassLoader;
import java.nio.file.Files;
import java.nio.file.Path;
import java.util.ArrayList;
import java.util.List;
import java.util.TreeSet;
import java.util.regex.Matcher;
import java.util.regex.Pattern;
import javax.tools.JavaCompiler;
import javax.tools.ToolProvider;

/** The Java of README.md, compiled and run as it stands there: each call answers what is written behind it. */
public final class ReadmeTest {
    private static final Checks CHECKS = new Checks();
    private static final String RUN = "ReadmeRun";
    /** A call, and behind it what it answers, perhaps with words behind a colon. */
    private static final Pattern ANSWERED = Pattern.compile("(.+);\\s+// (-?\\d+|true|false|throws \\w+)(: .*)?");
    private static final String MAKING = "OptionLattice x = new OptionLattice();";

    private final StringBuilder members = new StringBuilder();
    private final StringBuilder statements = new StringBuilder();
    private final List<String> calls = new ArrayList<>();
    private final List<String> due = new ArrayList<>();

    private ReadmeTest() {
    }

    public static void main(String[] args) throws Exception {
        ReadmeTest test = new ReadmeTest();
        test.read(Files.readAllLines(Path.of("README.md")));
        test.showsEachCall();
        test.compare(test.answers());
        CHECKS.close("ReadmeTest");
    }

    /** A block that begins with static is a method of its own, the others are one run. */
    private void read(List<String> lines) {
        boolean java = false;
        boolean method = false;
        for (int i = 0; i < lines.size(); i++) {
            String line = lines.get(i);
            if (line.startsWith("```")) {
                java = line.equals("```java");
                method = java && i + 1 < lines.size() && lines.get(i + 1).startsWith("static ");
            } else if (java && method) {
                members.append(line).append('\n');
            } else if (java) {
                readStatement(i + 1, line);
            }
        }
    }

    /** A line without an answer would be shown and not looked at, so there is none but the one that makes the object. */
    private void readStatement(int number, String line) {
        Matcher m = ANSWERED.matcher(line);
        if (m.matches()) {
            calls.add("README.md, line " + number + ": " + m.group(1));
            due.add(m.group(2));
            statements.append("try { got.add(String.valueOf(").append(m.group(1)).append(")); }\n")
                .append("catch (RuntimeException e) { got.add(\"throws \" + e.getClass().getSimpleName()); }\n");
        } else {
            CHECKS.due("README.md, line " + number + " is a call with its answer: " + line, line.equals(MAKING), true);
            statements.append(line).append('\n');
        }
    }

    private void showsEachCall() {
        String shown = String.join("\n", calls);
        TreeSet<String> missing = new TreeSet<>();
        for (Method m : OptionLattice.class.getDeclaredMethods()) {
            if (Modifier.isPublic(m.getModifiers()) && !shown.contains("x." + m.getName() + "(")) {
                missing.add(m.getName());
            }
        }
        CHECKS.due("README.md shows each call, but " + missing, missing.size(), 0);
    }

    private List<String> answers() throws Exception {
        JavaCompiler compiler = ToolProvider.getSystemJavaCompiler();
        if (compiler == null) {
            throw new IllegalStateException("the Java that runs this test has no compiler");
        }
        Path folder = Files.createTempDirectory("readme");
        Path source = folder.resolve(RUN + ".java");
        Path made = folder.resolve(RUN + ".class");
        try {
            Files.writeString(source, source());
            String classes = System.getProperty("java.class.path");
            int failed = compiler.run(null, null, null, "-cp", classes, "-d", folder.toString(), source.toString());
            CHECKS.due("the Java of README.md compiles: errors", failed, 0);
            return failed == 0 ? run(folder) : List.of();
        } finally {
            Files.deleteIfExists(source);
            Files.deleteIfExists(made);
            Files.deleteIfExists(folder);
        }
    }

    private String source() {
        return "public final class " + RUN + " {\n" + members
            + "public static java.util.List<String> run() {\n"
            + "java.util.List<String> got = new java.util.ArrayList<>();\n" + statements
            + "return got;\n}\n}\n";
    }

    private static List<String> run(Path folder) throws IOException, ReflectiveOperationException {
        List<String> got = new ArrayList<>();
        try (URLClassLoader loader = new URLClassLoader(new URL[] {folder.toUri().toURL()})) {
            for (Object answer : (List<?>) loader.loadClass(RUN).getMethod("run").invoke(null)) {
                got.add(answer.toString());
            }
        }
        return got;
    }

    private void compare(List<String> got) {
        CHECKS.due("README.md: answers", got.size(), due.size());
        for (int i = 0; i < got.size() && i < due.size(); i++) {
            CHECKS.dueLook(calls.get(i), got.get(i) + "\n", due.get(i) + "\n");
        }
    }
}
