import java.io.IOException;
import java.lang.reflect.Method;
import java.lang.reflect.Modifier;
import java.net.URL;
import java.net.URLClassLoader;
import java.nio.file.Files;
import java.nio.file.Path;
import java.util.ArrayList;
import java.util.List;
import java.util.Set;
import java.util.TreeSet;
import java.util.regex.Matcher;
import java.util.regex.Pattern;
import javax.tools.ToolProvider;

/** What README.md says holds when it is tried: its calls answer as it tells, its tables are whole. */
final class ReadmeTest {
    private static final Pattern CALL = Pattern.compile("(?:(?<name>\\w+ \\w+) = )?(?<call>.+);\\s+// (?<due>.+)");
    private static final Pattern ROW = Pattern.compile("\\| `(\\w+)\\(([^)]*)\\)` \\|.*\\|(.*)\\|");
    private static final Pattern EXCEPTION = Pattern.compile("\\w+Exception");

    public static void main(String[] args) throws IOException, ReflectiveOperationException {
        List<String> lines = Files.readAllLines(Path.of("README.md"));
        for (String[] one : answers(program(lines))) {
            Check.same("README.md: " + one[0], one[1], one[2]);
        }
        tableOfCalls(lines);
        tableOfTests(lines);
        Check.end();
    }

    // ---- the calls

    /** A class that makes the calls of all blocks of Java and tells each line, its answer, and the one due. */
    private static String program(List<String> lines) {
        StringBuilder helpers = new StringBuilder();
        StringBuilder run = new StringBuilder();
        boolean java = false;
        boolean helper = false;
        for (String line : lines) {
            if (line.startsWith("```")) {
                java = line.equals("```java");
                helper = false;
            } else if (java) {
                helper = helper || line.startsWith("static ");
                (helper ? helpers : run).append(helper ? line : checked(line)).append('\n');
            }
        }
        return "import java.util.*;\npublic final class ReadmeRun {\n"
                + "static final List<String[]> ALL = new ArrayList<>();\n"
                + "static void tell(String line, Object got, String due) {\n"
                + "ALL.add(new String[] {line, got instanceof Character ? \"'\" + got + \"'\" : \"\" + got, due}); }\n"
                + helpers + "public static List<String[]> run() {\n" + run + "return ALL;\n}\n}\n";
    }

    private static String checked(String line) {
        Matcher call = CALL.matcher(line);
        if (!call.matches()) {
            Check.same("README.md: a call without an answer: " + line, line.matches("\\w+\\.\\w+\\(.*"), false);
            return line;
        }
        String quoted = '"' + line.trim().replace("\\", "\\\\").replace("\"", "\\\"") + '"';
        String due = call.group("due").split(":")[0];
        String name = call.group("name");
        if (name != null) {
            return name + " = " + call.group("call") + "; tell(" + quoted + ", " + name.split(" ")[1] + ", \"" + due + "\");";
        }
        return "try { tell(" + quoted + ", " + call.group("call") + ", \"" + due + "\"); } catch (RuntimeException e) {"
                + " tell(" + quoted + ", \"throws \" + e.getClass().getSimpleName(), \"" + due + "\"); }";
    }

    private static List<String[]> answers(String program) throws IOException, ReflectiveOperationException {
        Path dir = Files.createTempDirectory("readme");
        Path source = dir.resolve("ReadmeRun.java");
        Path made = dir.resolve("ReadmeRun.class");
        Files.writeString(source, program);
        int code = ToolProvider.getSystemJavaCompiler().run(null, null, null, "-d", dir.toString(),
                "-cp", System.getProperty("java.class.path"), source.toString());
        Check.same("README.md: what javac says to its calls", code, 0);
        List<String[]> all = new ArrayList<>();
        if (code == 0) {
            try (URLClassLoader loader = new URLClassLoader(new URL[] {dir.toUri().toURL()})) {
                for (Object one : (List<?>) loader.loadClass("ReadmeRun").getMethod("run").invoke(null)) {
                    all.add((String[]) one);
                }
            }
            Files.delete(made);
        }
        Files.delete(source);
        Files.delete(dir);
        return all;
    }

    // ---- the tables

    /** Each method has a row, with its parameters and with what it throws, in the document's order. */
    private static void tableOfCalls(List<String> lines) {
        Set<String> extra = rows(lines);
        extra.removeAll(methods());
        Check.same("README.md: rows that no method has", extra, Set.of());
        Set<String> missing = methods();
        missing.removeAll(rows(lines));
        Check.same("README.md: methods without their row", missing, Set.of());
    }

    private static Set<String> rows(List<String> lines) {
        Set<String> rows = new TreeSet<>();
        for (String line : lines) {
            Matcher row = ROW.matcher(line);
            if (row.matches()) {
                StringBuilder one = new StringBuilder(row.group(1));
                one.append(' ').append(row.group(2).isEmpty() ? 0 : row.group(2).split(",").length);
                Matcher thrown = EXCEPTION.matcher(row.group(3));
                while (thrown.find()) {
                    one.append(' ').append(thrown.group());
                }
                rows.add(one.toString());
            }
        }
        return rows;
    }

    private static Set<String> methods() {
        Set<String> methods = new TreeSet<>();
        for (Method method : Homewatcher.class.getDeclaredMethods()) {
            if (Modifier.isPublic(method.getModifiers())) {
                StringBuilder one = new StringBuilder(method.getName()).append(' ').append(method.getParameterCount());
                for (Class<?> thrown : method.getExceptionTypes()) {
                    one.append(' ').append(thrown.getSimpleName());
                }
                methods.add(one.toString());
            }
        }
        return methods;
    }

    private static void tableOfTests(List<String> lines) throws IOException {
        String text = String.join("\n", lines);
        try (var files = Files.list(Path.of("src/test/java"))) {
            for (Path file : files.toList()) {
                String name = file.getFileName().toString().replace(".java", "");
                Check.same("README.md names " + name, Pattern.compile("\\b" + name + "\\b").matcher(text).find(), true);
            }
        }
    }
}
