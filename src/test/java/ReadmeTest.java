import java.io.IOException;
import java.lang.reflect.Method;
import java.lang.reflect.Modifier;
import java.net.URL;
import java.net.URLClassLoader;
import java.nio.file.Files;
import java.nio.file.Path;
import java.util.ArrayList;
import java.util.List;
import java.util.TreeSet;
import java.util.regex.Matcher;
import java.util.regex.Pattern;
import javax.tools.JavaCompiler;
import javax.tools.ToolProvider;

/**
 * What README.md shows: its examples are compiled as they stand there and each answer is
 * the one that it tells; its tables have every call of the document's face, with the
 * refusals in the order of the promise; its numbers of NONE and the refusals are right.
 */
public final class ReadmeTest extends Checks {
    private static final Path README = Path.of("README.md");
    private static final Path DOCUMENT = Path.of("../shared/DOC.md");
    private static final String[] NAMES = {"NONE", "UNKNOWN", "OUTSIDE", "STATE", "FULL"};
    private static final int[] NUMBERS = {CountedTrials.NONE, CountedTrials.UNKNOWN, CountedTrials.OUTSIDE,
        CountedTrials.STATE, CountedTrials.FULL};

    // A line with an answer: what is called, perhaps with a name for it, and what is told behind "//".
    private static final Pattern ANSWERED = Pattern.compile("(?:(int|long) (\\w+) = )?((?:new CountedTrials\\(\\)|\\w+)"
        + "\\.(\\w+)\\(.*\\));\\s*// (-?\\d+|[A-Z]+)(?:: .*)?");
    private static final Pattern CALL_OF_FACE = Pattern.compile("    public (?:int|long) ((\\w+)\\(.*\\));");
    private static final Pattern REFUSAL = Pattern.compile("UNKNOWN|OUTSIDE|STATE|FULL");

    public static void main(String[] args) throws Exception {
        List<String> readme = Files.readAllLines(README);
        List<String> document = Files.readAllLines(DOCUMENT);
        examples(readme);
        tables(readme, document);
        numbers(readme);
        end();
    }

    // ---- examples

    private static void examples(List<String> readme) throws Exception {
        sentence("README.md: an example");
        List<String> calls = new ArrayList<>();
        String source = program(linesOfJava(readme), calls);
        Path dir = Files.createTempDirectory("readme");
        try {
            long[][] told = run(source, dir);
            due("how many answers are told", told.length, calls.size());
            for (int i = 0; i < told.length && i < calls.size(); i++) {
                due(calls.get(i), told[i][0], told[i][1]);
            }
        } finally {
            delete(dir);
        }
    }

    private static List<String> linesOfJava(List<String> readme) {
        List<String> lines = new ArrayList<>();
        boolean inside = false;
        for (String line : readme) {
            if (line.startsWith("```")) {
                inside = line.equals("```java");
            } else if (inside) {
                lines.add(line);
            }
        }
        return lines;
    }

    /** The lines as one method that gives {what was answered, what is told} of each call; their texts go to calls. */
    private static String program(List<String> lines, List<String> calls) {
        TreeSet<String> shown = new TreeSet<>();
        StringBuilder b = new StringBuilder("import java.util.ArrayList;\nimport java.util.List;\n"
            + "public final class ReadmeExamples {\n    public static long[][] run() {\n"
            + "        List<long[]> told = new ArrayList<>();\n");
        for (String line : lines) {
            Matcher m = ANSWERED.matcher(line);
            if (!m.matches()) {
                due("words behind // that are not an answer: " + line, line.contains("//") ? 1 : 0, 0);
                b.append(line).append('\n');
                continue;
            }
            calls.add(m.group(3));
            shown.add(m.group(4));
            shown.add(m.group(5));
            if (m.group(1) != null) {
                b.append(line, 0, line.indexOf(';') + 1).append('\n');
            }
            b.append("told.add(new long[] {").append(m.group(1) != null ? m.group(2) : m.group(3));
            b.append(", ").append(number(m.group(5))).append("});\n");
        }
        allShown(shown);
        return b.append("        return told.toArray(new long[0][]);\n    }\n}\n").toString();
    }

    private static String number(String told) {
        return Character.isLetter(told.charAt(0)) ? "CountedTrials." + told : told + "L";
    }

    private static void allShown(TreeSet<String> shown) {
        for (Method method : CountedTrials.class.getDeclaredMethods()) {
            if (Modifier.isPublic(method.getModifiers())) {
                due("examples of " + method.getName() + "()", shown.contains(method.getName()) ? 1 : 0, 1);
            }
        }
        for (String name : NAMES) {
            due("examples that answer " + name, shown.contains(name) ? 1 : 0, 1);
        }
    }

    private static long[][] run(String source, Path dir) throws Exception {
        Path file = dir.resolve("ReadmeExamples.java");
        Files.writeString(file, source);
        JavaCompiler javac = ToolProvider.getSystemJavaCompiler();
        due("a compiler is there", javac == null ? 0 : 1, 1);
        if (javac == null) {
            return new long[0][];
        }
        int compiled = javac.run(null, null, null, "-cp", System.getProperty("java.class.path"), "-d", dir.toString(),
            file.toString());
        due("the examples compile", compiled, 0);
        if (compiled != 0) {
            return new long[0][];
        }
        URL[] where = {dir.toUri().toURL()};
        try (URLClassLoader loader = new URLClassLoader(where, ReadmeTest.class.getClassLoader())) {
            return (long[][]) loader.loadClass("ReadmeExamples").getMethod("run").invoke(null);
        }
    }

    private static void delete(Path dir) throws IOException {
        for (String name : new String[] {"ReadmeExamples.java", "ReadmeExamples.class"}) {
            Files.deleteIfExists(dir.resolve(name));
        }
        Files.deleteIfExists(dir);
    }

    // ---- tables

    private static void tables(List<String> readme, List<String> document) {
        sentence("README.md: a row of a table");
        int calls = 0;
        for (String line : document) {
            Matcher m = CALL_OF_FACE.matcher(line);
            if (m.matches()) {
                calls++;
                row(readme, m.group(1), refusals(promise(document, m.group(2))));
            }
        }
        due("how many calls the document's face has", calls, 28);
    }

    /** There is one row: the call, what it takes, what it answers, its refusals. */
    private static void row(List<String> readme, String call, List<String> refusals) {
        int rows = 0;
        for (String line : readme) {
            if (line.startsWith("| `" + call + "` |")) {
                rows++;
                String[] cells = line.substring(2).split(" \\|( |$)");
                due(call + ": cells", cells.length, 4);
                List<String> told = refusals(cells[cells.length - 1]);
                due(call + ": " + told + ", by the document " + refusals, told.equals(refusals) ? 1 : 0, 1);
            }
        }
        due(call + ": rows", rows, 1);
    }

    private static String promise(List<String> document, String name) {
        for (String line : document) {
            if (line.matches("`(int|long) " + name + "\\(.*\\)`: .*")) {
                return line;
            }
        }
        due("promise of " + name + "()", 0, 1);
        return "";
    }

    private static List<String> refusals(String text) {
        List<String> names = new ArrayList<>();
        Matcher m = REFUSAL.matcher(text);
        while (m.find()) {
            names.add(m.group());
        }
        return names;
    }

    private static void numbers(List<String> readme) {
        sentence("README.md: the number of a name");
        for (int i = 0; i < NAMES.length; i++) {
            String begin = "| `" + NAMES[i] + "` | " + NUMBERS[i] + " |";
            due(begin, readme.stream().filter(line -> line.startsWith(begin)).count(), 1);
        }
    }
}
