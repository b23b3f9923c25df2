import java.io.File;
import java.io.IOException;
import java.net.URL;
import java.net.URLClassLoader;
import java.nio.file.Files;
import java.nio.file.Path;
import java.util.List;
import java.util.regex.Matcher;
import java.util.regex.Pattern;
import javax.tools.JavaCompiler;
import javax.tools.ToolProvider;

/**
 * README.md's pieces of Java, behind one another, are a program: each call with a number behind
 * it must answer that number. README.md also names each test, and each call that it shows.
 */
public final class ReadmeTest {
    private static final Check c = new Check();
    private static final Pattern CALL = Pattern.compile("(x\\.\\w+\\(.*?\\)); +// (-?\\d+)\\b.*");
    private static final Path SOURCE = Path.of("build/readme/ReadmeProgram.java");
    private static int shown;

    public static void main(String[] args) throws Exception {
        String readme = Files.readString(Path.of("README.md"));
        runProgram(programOf(readme));
        c.due("calls with answers", shown > 50 ? 1 : 0, 1);
        allCallsShown(readme);
        allTestsNamed(readme);
        c.end();
    }

    /** What the program that is made of README.md calls. */
    public static void due(String call, long answered, long want) {
        c.due("README.md: " + call, answered, want);
    }

    private static String programOf(String readme) {
        StringBuilder lines = new StringBuilder(
            "public final class ReadmeProgram {\npublic static void main(String[] args) {\n");
        boolean inside = false;
        for (String line : readme.split("\n")) {
            if (line.startsWith("```")) {
                inside = line.equals("```java");
            } else if (inside) {
                lines.append(asTest(line)).append('\n');
            }
        }
        return lines.append("}\n}\n").toString();
    }

    private static String asTest(String line) {
        Matcher call = CALL.matcher(line);
        if (!call.matches()) {
            c.due("a number behind the call: " + line, line.contains("//") ? 1 : 0, 0);
            return line;
        }
        shown++;
        String told = call.group(1);
        return "ReadmeTest.due(\"" + told + "\", " + told + ", " + call.group(2) + "L);";
    }

    private static void runProgram(String program) throws Exception {
        Files.createDirectories(SOURCE.getParent());
        Files.writeString(SOURCE, program);
        JavaCompiler javac = ToolProvider.getSystemJavaCompiler();
        String classes = System.getProperty("java.class.path");
        int failed = javac.run(null, null, null, "-cp", classes, SOURCE.toString());
        c.due("README.md's program compiles: javac", failed, 0);
        if (failed == 0) {
            URL[] places = {SOURCE.getParent().toUri().toURL()};
            try (URLClassLoader loader = new URLClassLoader(places)) {
                loader.loadClass("ReadmeProgram").getMethod("main", String[].class)
                    .invoke(null, (Object) new String[0]);
            }
        }
    }

    private static void allCallsShown(String readme) {
        for (java.lang.reflect.Method call : BothPrices.class.getDeclaredMethods()) {
            if (java.lang.reflect.Modifier.isPublic(call.getModifiers())) {
                String start = "\nx." + call.getName() + "(";
                boolean isShown = readme.contains(start) || readme.contains("    " + start.trim());
                c.due("README.md shows " + call.getName(), isShown ? 1 : 0, 1);
            }
        }
    }

    private static void allTestsNamed(String readme) throws IOException {
        File[] tests = new File("src/test/java").listFiles();
        List<File> all = tests == null ? List.of() : List.of(tests);
        c.due("tests beside this one", all.size() > 1 ? 1 : 0, 1);
        for (File test : all) {
            String name = test.getName().replace(".java", "");
            if (name.endsWith("Test")) {
                c.due("README.md names " + name, readme.contains("| `" + name) ? 1
                    : readme.contains(", `" + name + "`") ? 1 : 0, 1);
            }
        }
    }
}
