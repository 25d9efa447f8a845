import java.io.IOException;
import java.lang.reflect.Array;
import java.lang.reflect.Field;
import java.lang.reflect.Method;
import java.lang.reflect.Modifier;
import java.net.URL;
import java.net.URLClassLoader;
import java.nio.file.Files;
import java.nio.file.Path;
import java.util.ArrayList;
import java.util.List;
import java.util.Set;
import java.util.TreeSet;
import java.util.regex.Matcher;
import java.util.regex.Pattern;
import java.util.stream.Stream;
import javax.tools.ToolProvider;

/** What README.md says is so: its examples, its tables, the files and tests that it names. */
public final class ReadmeIsSo {
    private static final Path README = Path.of("README.md"), SOURCE = Path.of("src/main/java/OneWorse.java");
    private static final Path TESTS = Path.of("src/test/java");
    private static final Pattern ANSWERED = Pattern.compile("(.*);\\s+// (-?\\d+)(?:[:,].*)?");

    private static int wrong = 0;
    private static int checks = 0;

    public static void main(String[] args) throws Exception {
        List<String> lines = Files.readAllLines(README);
        examples(lines);
        refusals(lines);
        calls(lines);
        filesNamed(lines);
        testsNamed(lines);
        numbersMade(lines);
        System.out.println(checks + " things that README.md says, " + wrong + " wrong");
        if (wrong != 0) System.exit(1);
    }

    /** The examples' lines call this, too. */
    public static void due(String line, int got, int want) {
        checks++;
        if (got == want) return;
        wrong++;
        System.out.println("README.md: " + line + " answered " + got);
    }

    private static void holds(boolean it, String what) {
        checks++;
        if (it) return;
        wrong++;
        System.out.println("README.md: it does not hold: " + what);
    }

    private static List<List<String>> blocks(List<String> lines, String kind) {
        List<List<String>> blocks = new ArrayList<>();
        List<String> open = null;
        for (String line : lines) {
            if (line.equals("```" + kind)) {
                open = new ArrayList<>();
                blocks.add(open);
            } else if (line.startsWith("```")) {
                open = null;
            } else if (open != null) {
                open.add(line);
            }
        }
        return blocks;
    }

    /** Each block is compiled as a method, each answer told behind a call is compared with the one that is given. */
    private static void examples(List<String> lines) throws Exception {
        StringBuilder text = new StringBuilder("public final class Examples {\n    public static void run() {\n");
        int answers = 0;
        for (List<String> block : blocks(lines, "java")) {
            text.append("        {\n");
            for (String line : block) {
                Matcher answered = ANSWERED.matcher(line);
                if (answered.matches()) {
                    answers++;
                    text.append("ReadmeIsSo.due(\"").append(line.replace("\\", "\\\\").replace("\"", "\\\"")).append("\", ")
                            .append(answered.group(1)).append(", ").append(answered.group(2)).append(");\n");
                } else {
                    holds(!line.contains("//"), "the answer can be read: " + line);
                    text.append(line).append('\n');
                }
            }
            text.append("        }\n");
        }
        holds(answers > 40, "there are examples");
        runAsClass(text.append("    }\n}\n").toString());
    }

    private static void runAsClass(String text) throws Exception {
        Path place = Files.createTempDirectory("readme");
        Path source = Files.writeString(place.resolve("Examples.java"), text);
        Path own = Path.of(ReadmeIsSo.class.getProtectionDomain().getCodeSource().getLocation().toURI());
        int ended = ToolProvider.getSystemJavaCompiler().run(null, null, null,
                "-cp", own.toString(), "-d", place.toString(), source.toString());
        holds(ended == 0, "the examples compile");
        if (ended == 0) {
            try (URLClassLoader loader = new URLClassLoader(new URL[] {place.toUri().toURL()})) {
                loader.loadClass("Examples").getMethod("run").invoke(null);
            }
        }
        for (String name : new String[] {"Examples.class", "Examples.java", "."}) {
            Files.deleteIfExists(place.resolve(name).normalize());
        }
    }

    private static void refusals(List<String> lines) throws IllegalAccessException {
        Set<String> told = new TreeSet<>();
        for (String line : lines) {
            Matcher row = Pattern.compile("\\| `([A-Z]+)` \\| (-\\d) \\|.*").matcher(line);
            if (row.matches()) told.add(row.group(1) + " " + row.group(2));
        }
        Set<String> are = new TreeSet<>();
        for (Field f : OneWorse.class.getFields()) are.add(f.getName() + " " + f.getInt(null));
        holds(told.equals(are), "the refusals are " + are + ", not " + told);
    }

    /** The table has each call of the face, in its order, and just those refusals that it can answer. */
    private static void calls(List<String> lines) throws Exception {
        List<String> told = new ArrayList<>(), are = new ArrayList<>();
        for (String line : lines) {
            Matcher row = Pattern.compile("\\| `((\\w+)\\(.*?\\))` \\|.*\\|([^|]*)\\|").matcher(line);
            if (!row.matches()) continue;
            told.add(row.group(1));
            Set<String> refusals = new TreeSet<>();
            Matcher word = Pattern.compile("`([A-Z]+)`").matcher(row.group(3));
            while (word.find()) refusals.add(word.group(1));
            Set<String> can = refusalsOf(row.group(2));
            holds(refusals.equals(can), row.group(1) + " can answer " + can + ", not " + refusals);
        }
        for (String line : Files.readAllLines(SOURCE)) {
            Matcher head = Pattern.compile("    public int (\\w+)\\((.*)\\) \\{").matcher(line);
            if (head.matches()) are.add(head.group(1) + "(" + head.group(2).replaceAll("(int|boolean) ", "") + ")");
        }
        holds(told.equals(are), "the calls are " + are + ", not " + told);
    }

    /** All refusals that a call answers on some objects, if all that is least, greatest and beyond is tried. */
    private static Set<String> refusalsOf(String name) throws Exception {
        Set<String> seen = new TreeSet<>();
        for (Method m : OneWorse.class.getDeclaredMethods()) {
            if (!m.getName().equals(name) || !Modifier.isPublic(m.getModifiers())) continue;
            for (int kind = 0; kind < 4; kind++) tryAll(m, new Object[m.getParameterCount()], 0, kind, seen);
        }
        return seen;
    }

    private static void tryAll(Method m, Object[] given, int ready, int kind, Set<String> seen) throws Exception {
        if (ready < given.length) {
            boolean yesOrNo = m.getParameterTypes()[ready] == boolean.class;
            Object[] all = yesOrNo ? new Object[] {true, false}
                    : given.length > 3 ? new Object[] {-1, 0, 1, 2, 3, 1024}
                    : new Object[] {Integer.MIN_VALUE, -1, 0, 1, 2, 4, 5, 9, 10, 31, 32, 64, 97, 1024};
            for (Object one : all) {
                given[ready] = one;
                tryAll(m, given, ready + 1, kind, seen);
            }
            return;
        }
        int answer = (int) m.invoke(object(kind), given);
        if (answer >= 0) return;
        for (Field f : OneWorse.class.getFields()) {
            if (f.getInt(null) == answer) seen.add(f.getName());
        }
    }

    /**
     * A new object; one with steps, a good quarrel on the pad, and a man who knows nothing; one with a
     * full pad; one with steps on it.
     */
    private static OneWorse object(int kind) {
        OneWorse x = new OneWorse();
        if (kind == 1) {
            write(x, "1a2b");
            x.step(0, 1, true);
            x.step(1, 0, true);
            x.man(0, 1, 0);
            x.image(0);
        } else if (kind == 2) {
            write(x, "abababababababababababababababababababab");
        } else if (kind == 3) {
            write(x, "a>b");
        }
        return x;
    }

    private static void write(OneWorse x, String text) {
        for (char sign : text.toCharArray()) x.say(sign);
    }

    private static void filesNamed(List<String> lines) {
        for (String line : lines) {
            Matcher name = Pattern.compile("(?:\\.\\./shared|src|\\.ci)/[\\w/.]*\\w").matcher(line);
            while (name.find()) holds(Files.exists(Path.of(name.group())), "there is " + name.group());
        }
        holds(Files.isExecutable(Path.of(".ci/run")), ".ci/run can be run");
    }

    private static void testsNamed(List<String> lines) throws IOException {
        Set<String> told = new TreeSet<>(), are = new TreeSet<>();
        for (String line : lines) {
            Matcher row = Pattern.compile("- `(\\w+)`: .*").matcher(line);
            if (row.matches()) told.add(row.group(1) + ".java");
        }
        try (Stream<Path> files = Files.list(TESTS)) {
            files.forEach(file -> are.add(file.getFileName().toString()));
        }
        holds(told.equals(are), "the tests are " + are + ", not " + told);
    }

    /** How many numbers an object holds, in its fields and rows and in those of its parts. */
    private static void numbersMade(List<String> lines) throws IllegalAccessException {
        holds(lines.stream().anyMatch(line -> line.contains("some 12,000 numbers")), "it tells how many numbers");
        List<Object> seen = new ArrayList<>();
        int numbers = numbersIn(new OneWorse(), seen);
        holds(numbers > 11_000 && numbers < 13_000, "an object makes some 12,000 numbers: " + numbers);
    }

    private static int numbersIn(Object o, List<Object> seen) throws IllegalAccessException {
        for (Object one : seen) {
            if (one == o) return 0;
        }
        seen.add(o);
        if (o.getClass().isArray()) return Array.getLength(o);
        int numbers = 0;
        for (Field f : o.getClass().getDeclaredFields()) {
            if (Modifier.isStatic(f.getModifiers())) continue;
            f.setAccessible(true);
            numbers += f.getType().isPrimitive() ? 1 : numbersIn(f.get(o), seen);
        }
        return numbers;
    }
}
