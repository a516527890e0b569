import java.io.IOException;
import java.net.URL;
import java.net.URLClassLoader;
import java.nio.file.Files;
import java.nio.file.Path;
import java.util.ArrayList;
import java.util.List;
import java.util.Set;
import java.util.TreeSet;
import java.util.regex.Matcher;
import java.util.regex.Pattern;
import java.util.stream.Stream;
import javax.tools.JavaCompiler;
import javax.tools.ToolProvider;

/** What README.md shows is what the class does: its code with the answers, its tables, and its list of tests. */
public final class ReadmeHolds {
    private static final String NEW = "StraightTax x = new StraightTax();";
    private static final Pattern ANSWERED =
        Pattern.compile("((?:x\\.(\\w+)\\(|tell\\(x, ).*\\)); +// (-?\\d+|BAD|STATE|FULL|NONE|NO)(?:: .*)?");
    private static int wrong = 0;

    private final StringBuilder helpers = new StringBuilder();
    private final StringBuilder body = new StringBuilder();
    private final Set<String> called = new TreeSet<>();
    private int answers = 0;

    public static void main(String[] args) throws Exception {
        Path source = Path.of(System.getProperty("straighttax.source", "src/main/java/StraightTax.java")).toAbsolutePath();
        Path root = source.getParent().getParent().getParent().getParent();
        List<String> lines = Files.readAllLines(root.resolve("README.md"));
        Set<String> face = face(Files.readString(source));
        ReadmeHolds code = new ReadmeHolds();
        code.take(lines);
        code.run();
        code.callsAll(face);
        tableOfCalls(lines, face);
        constants(String.join("\n", lines));
        listOfTests(lines, root.resolve("src/test/java"));
        System.out.println(code.answers + " answers of README.md, " + wrong + " faults");
        if (wrong != 0) {
            System.exit(1);
        }
    }

    private static void fault(String what) {
        wrong++;
        System.out.println("README.md: " + what);
    }

    /** Each call of the face with the names of its numbers, as the source has it. */
    private static Set<String> face(String source) {
        Set<String> calls = new TreeSet<>();
        Matcher head = Pattern.compile("^    public (?:int|long) (\\w+)\\((.*)\\) \\{$", Pattern.MULTILINE).matcher(source);
        while (head.find()) {
            calls.add(head.group(1) + "(" + head.group(2).replaceAll("\\b(int|long) ", "") + ")");
        }
        return calls;
    }

    private void take(List<String> lines) {
        for (int i = 0; i < lines.size(); i++) {
            if (lines.get(i).equals("```java")) {
                int from = i + 1;
                int to = from;
                while (to < lines.size() && !lines.get(to).equals("```")) {
                    to++;
                }
                takeBlock(lines, from, to);
                i = to;
            }
        }
    }

    private void takeBlock(List<String> lines, int from, int to) {
        if (from < to && lines.get(from).startsWith("static ")) {
            helpers.append(String.join("\n", lines.subList(from, to))).append('\n');
            return;
        }
        body.append("{\n");
        for (int i = from; i < to; i++) {
            String line = lines.get(i);
            Matcher answered = ANSWERED.matcher(line);
            if (line.equals(NEW)) {
                body.append(line).append('\n');
            } else if (answered.matches()) {
                answers++;
                called.add(answered.group(2) == null ? "town" : answered.group(2));
                String told = answered.group(3);
                String want = told.matches("[A-Z]+") ? "StraightTax." + told : told + "L";
                body.append(String.format("due(%d, %s, %s);%n", i + 1, answered.group(1), want));
            } else {
                fault("line " + (i + 1) + " tells no answer: " + line);
            }
        }
        body.append("}\n");
    }

    /** The code is compiled as it stands, so that what does not compile is found too. */
    private void run() throws Exception {
        Path work = Files.createTempDirectory("readme");
        Path file = work.resolve("ReadmeCode.java");
        Files.writeString(file, "public final class ReadmeCode {\nstatic int wrong = 0;\n"
            + "static void due(int line, long got, long want) {\nif (got != want) {\nwrong++;\n"
            + "System.out.println(\"README.md: line \" + line + \" answered \" + got + \", not \" + want);\n}\n}\n"
            + helpers + "public static int run() {\n" + body + "return wrong;\n}\n}\n");
        JavaCompiler compiler = ToolProvider.getSystemJavaCompiler();
        String classes = System.getProperty("java.class.path");
        if (compiler == null || compiler.run(null, null, null, "-cp", classes, "-d", work.toString(), file.toString()) != 0) {
            fault("its code does not compile");
        } else {
            try (URLClassLoader loader = new URLClassLoader(new URL[] {work.toUri().toURL()})) {
                wrong += (int) loader.loadClass("ReadmeCode").getMethod("run").invoke(null);
            }
        }
        try (Stream<Path> made = Files.list(work)) {
            for (Path one : made.toList()) {
                Files.delete(one);
            }
        }
        Files.delete(work);
    }

    private void callsAll(Set<String> face) {
        for (String call : face) {
            String name = call.substring(0, call.indexOf('('));
            if (!called.contains(name) && !(name.equals("type") && helpers.indexOf("x.type(") >= 0)) {
                fault("no line of code shows " + call);
            }
        }
    }

    private static void tableOfCalls(List<String> lines, Set<String> face) {
        Set<String> told = new TreeSet<>();
        Pattern row = Pattern.compile("\\| `(\\w+\\([\\w, ]*\\))` \\| [^|]+ \\| [^|]*\\|");
        for (String line : lines) {
            Matcher call = row.matcher(line);
            if (call.matches() && !told.add(call.group(1))) {
                fault("told twice: " + call.group(1));
            }
        }
        if (face.size() != 25 || !told.equals(face)) {
            fault("its table has " + told + ", the face " + face);
        }
    }

    private static void constants(String page) throws Exception {
        Matcher told = Pattern.compile("`([A-Z]+)` (?:\\| |\\()(-\\d+)").matcher(page);
        List<String> names = new ArrayList<>();
        while (told.find()) {
            names.add(told.group(1));
            int is = StraightTax.class.getField(told.group(1)).getInt(null);
            if (is != Integer.parseInt(told.group(2))) {
                fault(told.group(1) + " is " + is);
            }
        }
        if (!names.containsAll(List.of("BAD", "STATE", "FULL", "NONE", "NO"))) {
            fault("of the constants it tells only " + names);
        }
    }

    private static void listOfTests(List<String> lines, Path tests) throws IOException {
        Set<String> told = new TreeSet<>();
        for (String line : lines) {
            Matcher name = Pattern.compile("`([A-Z]\\w+)`").matcher(line.startsWith("- ") ? line.substring(0, line.indexOf(':')) : "");
            while (name.find()) {
                told.add(name.group(1));
            }
        }
        Set<String> has = new TreeSet<>();
        try (Stream<Path> files = Files.list(tests)) {
            files.forEach(file -> has.add(file.getFileName().toString().replace(".java", "")));
        }
        if (!told.equals(has)) {
            fault("it lists the tests " + told + ", there are " + has);
        }
    }
}
