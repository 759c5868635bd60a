import java.io.IOException;
import java.lang.reflect.InvocationTargetException;
import java.net.URL;
import java.net.URLClassLoader;
import java.nio.charset.StandardCharsets;
import java.nio.file.Files;
import java.nio.file.Path;
import java.util.ArrayList;
import java.util.Collections;
import java.util.List;
import java.util.Map;
import java.util.Set;
import java.util.TreeMap;
import java.util.TreeSet;
import java.util.regex.Matcher;
import java.util.regex.Pattern;
import javax.tools.JavaCompiler;
import javax.tools.ToolProvider;

/**
 * What README.md says of the calls: its examples compile and answer as they say, its tables have each
 * call of the document with the refusals of its promise, and each of these is shown by an example.
 */
public final class Readme {
    private static final Path README = Path.of("README.md");
    private static final Path DOCUMENT = Path.of("../shared/DOC.md");
    private static final String REFUSAL = "UNKNOWN|BAD|STATE|FULL|NONE";
    private static final Pattern EXAMPLE =
            Pattern.compile("(bridge\\.(\\w+)\\(.*\\));\\s*// (-?\\d+|" + REFUSAL + ")(:.*)?");
    private static final Pattern ROW = Pattern.compile("\\| `(\\w+\\([\\w, ]*\\))` \\|.*\\|(.*)\\|");
    private static final Pattern FACE_CALL = Pattern.compile(" {4}public int (\\w+)\\((.*)\\);");
    private static final Pattern CONSTANT_ROW = Pattern.compile("\\| `(" + REFUSAL + ")` \\| (-?\\d+) \\|.*\\|");

    /** For each call that is shown, the refusals that it answers, and # for any number. */
    private static final Map<String, Set<String>> shown = new TreeMap<>();
    private static int wrong = 0;
    private static int examples = 0;

    public static void main(String[] args) throws Exception {
        List<String> readme = Files.readAllLines(README, StandardCharsets.UTF_8);
        List<String> document = Files.readAllLines(DOCUMENT, StandardCharsets.UTF_8);
        runExamples(readme);
        constants(readme);
        tables(readme, document);
        System.out.println(examples + " examples, " + wrong + " faults");
        if (wrong != 0) {
            System.exit(1);
        }
    }

    private static void check(boolean holds, String fault) {
        if (!holds) {
            wrong++;
            System.out.println(fault);
        }
    }

    // ---- examples

    /** All examples go into one program, a method for each block, with the calls just as they are written. */
    private static void runExamples(List<String> readme) throws Exception {
        StringBuilder program = new StringBuilder("public final class Examples {\n");
        program.append("static int wrong = 0;\n");
        program.append("static void due(String call, int got, int want) {\n");
        program.append("if (got != want) { wrong++; System.out.println(\"README.md: \" + call + \" answered \" + got); }\n");
        program.append("}\n");
        int blocks = 0;
        boolean inside = false;
        for (String line : readme) {
            if (line.equals("```java")) {
                inside = true;
                program.append("static void block").append(blocks++).append("() {\n");
            } else if (inside && line.equals("```")) {
                inside = false;
                program.append("}\n");
            } else if (inside) {
                program.append(asProgramLine(line)).append('\n');
            }
        }
        check(!inside, "a block of README.md has no end");
        check(blocks > 0, "README.md has no examples");
        program.append("public static int run() {\n");
        for (int i = 0; i < blocks; i++) {
            program.append("block").append(i).append("();\n");
        }
        program.append("return wrong;\n}\n}\n");
        compileAndRun(program.toString());
    }

    private static String asProgramLine(String line) {
        Matcher example = EXAMPLE.matcher(line);
        if (!example.matches()) {
            check(!line.contains("//"), "an example that tells no answer: " + line);
            return line;
        }
        examples++;
        String answer = example.group(3);
        boolean isNumber = !answer.matches(REFUSAL);
        shown.computeIfAbsent(example.group(2), name -> new TreeSet<>()).add(isNumber ? "#" : answer);
        return "due(\"" + line.trim() + "\", " + example.group(1) + ", " + (isNumber ? "" : "FootBridges.") + answer + ");";
    }

    private static void compileAndRun(String program) throws Exception {
        Path folder = Files.createTempDirectory("examples");
        Path source = folder.resolve("Examples.java");
        try {
            Files.writeString(source, program, StandardCharsets.UTF_8);
            JavaCompiler compiler = ToolProvider.getSystemJavaCompiler();
            String classes = System.getProperty("java.class.path");
            check(compiler != null, "this java has no compiler beside it");
            int result = compiler == null ? 0 : compiler.run(null, null, null, "-cp", classes, "-d", folder.toString(), source.toString());
            check(result == 0, "the examples of README.md do not compile");
            if (compiler != null && result == 0) {
                wrong += run(folder);
            }
        } finally {
            remove(folder);
        }
    }

    private static int run(Path folder) throws IOException, ReflectiveOperationException {
        URL[] places = {folder.toUri().toURL()};
        try (URLClassLoader loader = new URLClassLoader(places, Readme.class.getClassLoader())) {
            return (int) loader.loadClass("Examples").getMethod("run").invoke(null);
        } catch (InvocationTargetException thrown) {
            System.out.println("an example of README.md throws " + thrown.getCause());
            return 1;
        }
    }

    private static void remove(Path folder) throws IOException {
        try (var files = Files.list(folder)) {
            for (Path file : files.toList()) {
                Files.delete(file);
            }
        }
        Files.delete(folder);
    }

    // ---- tables

    private static void constants(List<String> readme) throws ReflectiveOperationException {
        Set<String> found = new TreeSet<>();
        for (String line : readme) {
            Matcher row = CONSTANT_ROW.matcher(line);
            if (row.matches()) {
                found.add(row.group(1));
                int due = FootBridges.class.getField(row.group(1)).getInt(null);
                check(Integer.parseInt(row.group(2)) == due, "README.md tells another number: " + line);
            }
        }
        check(found.equals(Set.of(REFUSAL.split("\\|"))), "README.md has other constants than those due: " + found);
    }

    private static void tables(List<String> readme, List<String> document) {
        Map<String, List<String>> told = new TreeMap<>();
        for (String line : readme) {
            Matcher row = ROW.matcher(line);
            if (row.matches()) {
                List<String> before = told.put(row.group(1), refusalsIn(row.group(2)));
                check(before == null, "README.md has two rows of " + row.group(1));
            }
        }
        Map<String, List<String>> due = promised(document);
        check(due.size() == 34, "the document has another number of calls: " + due.size());
        check(told.equals(due), "README.md and the document differ:\n" + told + "\n" + due);
        for (Map.Entry<String, List<String>> call : due.entrySet()) {
            String name = call.getKey().substring(0, call.getKey().indexOf('('));
            Set<String> wanted = new TreeSet<>(call.getValue());
            wanted.add("#");
            Set<String> seen = shown.getOrDefault(name, Collections.emptySet());
            check(seen.equals(wanted), name + ": the examples show " + seen + ", due are " + wanted);
        }
        check(shown.size() == due.size(), "the examples show other calls than those of the document");
    }

    /** Each call of the face with its parameters' names, and the refusals of its promise in their order. */
    private static Map<String, List<String>> promised(List<String> document) {
        Map<String, List<String>> due = new TreeMap<>();
        for (String line : document) {
            Matcher call = FACE_CALL.matcher(line);
            if (call.matches()) {
                String parameters = call.group(2).replaceAll("\\b(int|boolean) ", "");
                due.put(call.group(1) + "(" + parameters + ")", promiseOf(call.group(1), document));
            }
        }
        return due;
    }

    private static List<String> promiseOf(String name, List<String> document) {
        for (String line : document) {
            if (line.startsWith("`int " + name + "(")) {
                return refusalsIn(line);
            }
        }
        check(false, "the document has no promise of " + name);
        return new ArrayList<>();
    }

    private static List<String> refusalsIn(String text) {
        List<String> all = new ArrayList<>();
        Matcher refusal = Pattern.compile("\\b(" + REFUSAL + ")\\b").matcher(text);
        while (refusal.find()) {
            all.add(refusal.group());
        }
        return all;
    }
}
