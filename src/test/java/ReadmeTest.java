import java.io.IOException;
import java.lang.invoke.MethodHandles;
import java.lang.reflect.Method;
import java.lang.reflect.Modifier;
import java.nio.file.Files;
import java.nio.file.Path;
import java.util.ArrayList;
import java.util.List;
import java.util.Set;
import java.util.TreeSet;
import java.util.regex.Matcher;
import java.util.regex.Pattern;
import javax.tools.ToolProvider;

/**
 * What README.md shows of the use of the class holds as it stands there: its Java lines are compiled as one program,
 * in which each call is given the answer that stands behind it. To be run from the project's directory.
 */
public final class ReadmeTest {
    private static final String PROGRAM = "ReadmeProgram";
    /** The name of a handle if there is one, the call, its answer, and what it means. */
    private static final Pattern CALL =
        Pattern.compile(" *(?:int (\\w+) = )?(tape\\.(\\w+)\\([^.]*\\)); +// (-?\\d+|true|false)(?:: (.+))?");
    private static final Pattern SHOWN = Pattern.compile("shows (-?\\d+(?: / -?\\d+| -?\\d+)*)(?:;.*)?");

    private final Set<String> called = new TreeSet<>();
    private final StringBuilder program = new StringBuilder();

    public static void main(String[] args) throws Exception {
        List<String> readme = Files.readAllLines(Path.of("README.md"));
        ReadmeTest test = new ReadmeTest();
        test.write(javaLines(readme));
        test.callsAreAllShown();
        test.answersAreAsShown();
        testsAreAllNamed(String.join("\n", readme));
        Check.end();
    }

    private static List<String> javaLines(List<String> readme) {
        List<String> lines = new ArrayList<>();
        boolean inside = false;
        for (String line : readme) {
            if (line.startsWith("```")) {
                inside = line.equals("```java");
            } else if (inside) {
                lines.add(line);
            }
        }
        return lines;
    }

    private void write(List<String> lines) {
        program.append("final class " + PROGRAM + " { static void run() {\n");
        for (String line : lines) {
            Matcher call = CALL.matcher(line);
            if (call.matches()) {
                called.add(call.group(3));
                writeCall(call.group(1), call.group(2), call.group(4), call.group(5));
            } else {
                Check.due("README.md has a call without its answer: " + line, line.contains("tape."), false);
                program.append(line).append('\n');
            }
        }
        program.append("} }\n");
    }

    private void writeCall(String name, String call, String answer, String meaning) {
        String what = "\"README.md: " + call + "\"";
        String answered = name == null ? call : name;
        if (name != null) {
            program.append("int " + name + " = " + call + ";\n");
        }
        program.append("Check.due(" + what + ", " + answered + ", " + answer + ");\n");
        Matcher shown = SHOWN.matcher(meaning == null ? "" : meaning);
        if (shown.matches()) {
            String elements = shown.group(1).replaceAll("[ /]+", ", ");
            program.append("Check.shows(" + what + ", tape, " + name + ", tape.shape(" + name + "), " + elements
                + ");\n");
        } else {
            Check.due("README.md has elements that are not checked: " + meaning,
                meaning != null && meaning.contains("shows"), false);
        }
    }

    private void callsAreAllShown() {
        Set<String> face = new TreeSet<>();
        for (Method m : LazyTensorTape.class.getDeclaredMethods()) {
            if (Modifier.isPublic(m.getModifiers())) {
                face.add(m.getName());
            }
        }
        Check.due("README.md shows the calls " + called + ", those of the document", called.equals(face), true);
    }

    private void answersAreAsShown() throws Exception {
        Path directory = Files.createTempDirectory("readme");
        Path source = directory.resolve(PROGRAM + ".java");
        Path compiled = directory.resolve(PROGRAM + ".class");
        try {
            Files.writeString(source, program);
            int code = ToolProvider.getSystemJavaCompiler().run(null, null, null, "-cp",
                System.getProperty("java.class.path"), "-d", directory.toString(), source.toString());
            Check.due("compiling the lines of README.md", code, 0);
            if (code == 0) {
                // Defined here, not by another loader, so that it may use Check.
                Class<?> made = MethodHandles.lookup().defineClass(Files.readAllBytes(compiled));
                made.getDeclaredMethod("run").invoke(null);
            }
        } finally {
            Files.deleteIfExists(source);
            Files.deleteIfExists(compiled);
            Files.delete(directory);
        }
    }

    private static void testsAreAllNamed(String readme) throws IOException {
        Set<String> named = new TreeSet<>();
        Matcher name = Pattern.compile("(?m)^- `(\\w+Test)`:").matcher(readme);
        while (name.find()) {
            named.add(name.group(1) + ".java");
        }
        Set<String> held = new TreeSet<>();
        try (var files = Files.newDirectoryStream(Path.of("src/test/java"), "*Test.java")) {
            for (Path file : files) {
                held.add(file.getFileName().toString());
            }
        }
        Check.due("README.md names the tests " + named + ", there are " + held, named.equals(held), true);
    }
}
