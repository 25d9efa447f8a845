import java.io.IOException;
import java.lang.reflect.Field;
import java.lang.reflect.Member;
import java.lang.reflect.Method;
import java.lang.reflect.Modifier;
import java.nio.file.Files;
import java.nio.file.Path;
import java.util.ArrayList;
import java.util.List;
import java.util.Map;
import java.util.TreeMap;
import java.util.TreeSet;
import java.util.regex.Matcher;
import java.util.regex.Pattern;

/** The class shows the document's face and nothing else, and its text keeps to the rules that can be read off it. */
public final class FaceAndRules {
    private static final String[] FACE = {
        "int say(int)", "int wipe()", "int fault(int)", "int steps()", "int step(int,int,boolean)",
        "int needs(int,int)", "int man(int,int,int)", "int fit(int)", "int judge(int)",
        "int match(int,int,int)", "int middle(int,int,int,int,int)", "int last(int,int,int)",
        "int sent(int,boolean)", "int safe(int)", "int worth(int,int)", "int crowd(int,int)",
        "int rings(int)", "int ladder(int)", "int between(int,int,int,int)", "int high(int)",
        "int image(int)", "int restore(int)", "int join(int)", "int told(int)",
    };
    private static final String[] CONSTANTS = {"NONE", "UNKNOWN", "OUTSIDE", "STATE", "FULL", "NO"};
    /** What the class has no need of; without throw and catch no machine's exception can be hidden. */
    private static final String[] FORBIDDEN = {
        "import ", "package ", "throw ", "try ", "catch ", "finally", "synchronized", "assert ", "->", "::",
        "instanceof", "double", "float", "System.", "Thread", "Random", "static {", "Exact(", "while (", "do {",
    };

    private static int wrong = 0;

    public static void main(String[] args) throws IOException {
        face();
        classesInside();
        text();
        shortAndShallow();
        System.out.println("the face and the rules: " + wrong + " wrong");
        if (wrong != 0) System.exit(1);
    }

    private static void due(boolean holds, String what) {
        if (holds) return;
        wrong++;
        System.out.println("it does not hold: " + what);
    }

    private static String signature(Method m) {
        List<String> kinds = new ArrayList<>();
        for (Class<?> kind : m.getParameterTypes()) kinds.add(kind.getName());
        return m.getReturnType().getName() + " " + m.getName() + "(" + String.join(",", kinds) + ")";
    }

    private static void face() {
        TreeSet<String> open = new TreeSet<>(), shut = new TreeSet<>(), names = new TreeSet<>();
        for (Method m : OneWorse.class.getDeclaredMethods()) {
            if (Modifier.isPrivate(m.getModifiers())) {
                shut.add(m.getName());
            } else {
                open.add(signature(m));
                names.add(m.getName());
                due(m.getModifiers() == Modifier.PUBLIC, "public alone: " + m.getName());
            }
        }
        due(open.equals(new TreeSet<>(List.of(FACE))), "the methods are those of the document: " + open);
        shut.retainAll(names);
        due(shut.isEmpty(), "no private method bears a public one's name: " + shut);
        TreeSet<String> fields = new TreeSet<>();
        for (Field f : OneWorse.class.getDeclaredFields()) {
            if (!Modifier.isPrivate(f.getModifiers())) fields.add(f.getName());
            staticsAreFinal(f, f.getModifiers());
        }
        due(fields.equals(new TreeSet<>(List.of(CONSTANTS))), "the constants are those of the document: " + fields);
        due(OneWorse.class.getDeclaredConstructors().length == 1, "one constructor");
        due(OneWorse.class.getConstructors().length == 1, "it is public");
        due(Modifier.isFinal(OneWorse.class.getModifiers()), "the class is final");
    }

    private static void staticsAreFinal(Member m, int modifiers) {
        due(!Modifier.isStatic(modifiers) || Modifier.isFinal(modifiers), "a static field is final: " + m.getName());
    }

    private static void classesInside() {
        TreeSet<String> names = new TreeSet<>();
        for (Method m : OneWorse.class.getMethods()) {
            if (m.getDeclaringClass() == OneWorse.class) names.add(m.getName());
        }
        Class<?>[] inside = OneWorse.class.getDeclaredClasses();
        due(inside.length <= 12, "some twelve classes");
        for (Class<?> one : inside) {
            due(Modifier.isStatic(one.getModifiers()), "static: " + one.getName());
            due(!Modifier.isPublic(one.getModifiers()), "not public: " + one.getName());
            int fields = 0;
            for (Field f : one.getDeclaredFields()) {
                staticsAreFinal(f, f.getModifiers());
                if (!Modifier.isStatic(f.getModifiers())) fields++;
            }
            due(fields <= 20, "some twenty fields: " + one.getName());
            for (Method m : one.getDeclaredMethods()) {
                due(!names.contains(m.getName()), "no name of the face: " + one.getName() + "." + m.getName());
                due(m.getParameterCount() <= 7, "seven parameters: " + m.getName());
            }
        }
    }

    private static void text() throws IOException {
        Path file = Path.of("src/main/java/OneWorse.java");
        due(Files.exists(file), "run from the project's directory: there is " + file);
        if (!Files.exists(file)) return;
        for (String line : Files.readAllLines(file)) {
            String code = line.replaceAll("^ */?\\*.*|//.*", "");
            for (String word : FORBIDDEN) due(!code.contains(word), "no " + word + "in: " + line);
            due(line.chars().allMatch(c -> c >= 32 && c < 127), "plain signs: " + line);
            String library = code.replaceAll("\\bInteger\\.bitCount\\(", "");
            due(!library.matches(".*\\b[A-Z]\\w*\\..*"), "of the library Integer.bitCount alone: " + line);
            if (code.contains("new ")) due(isMadeOnce(code), "rows and objects are made with the object: " + line);
        }
    }

    /** A field's own value, or a line of the constructor. */
    private static boolean isMadeOnce(String code) {
        return code.matches(" +private final \\S+ \\w+ = new .*;")
                || code.matches(" {8}\\w+ = new [A-Z]\\w+\\((town)?\\);");
    }

    private static final int LONGEST_METHOD = 60, DEEPEST_CALL = 8;
    private static final Pattern HEAD = Pattern.compile("^( +)(?:public|private) (?:static )?(?:\\S+ )?(\\w+)\\(.*\\{$");

    /** Methods of one name are taken as one: that can only make the calls look deeper. */
    private static void shortAndShallow() throws IOException {
        Path file = Path.of("src/main/java/OneWorse.java");
        if (!Files.exists(file)) return;
        Map<String, StringBuilder> bodies = new TreeMap<>();
        String name = null, end = null;
        int lines = 0;
        for (String line : Files.readAllLines(file)) {
            Matcher head = HEAD.matcher(line);
            if (name == null && head.matches()) {
                name = head.group(2);
                end = head.group(1) + "}";
                lines = 1;
                bodies.putIfAbsent(name, new StringBuilder());
            } else if (name != null) {
                lines++;
                bodies.get(name).append(line).append('\n');
                due(lines <= LONGEST_METHOD, "a method stays short: " + name);
                if (line.equals(end)) name = null;
            }
        }
        for (String of : FACE) due(bodies.containsKey(of.replaceAll("int (\\w+).*", "$1")), "it is read: " + of);
        for (String from : bodies.keySet()) {
            String deepest = deepest(from, bodies, new ArrayList<>(List.of(from)));
            due(deepest.split(" ").length <= DEEPEST_CALL, "calls go at most eight deep: " + deepest);
        }
    }

    /** The longest row of calls from here, no method twice. */
    private static String deepest(String from, Map<String, StringBuilder> bodies, List<String> open) {
        String longest = from;
        for (String to : bodies.keySet()) {
            if (open.contains(to) || !Pattern.compile("\\b" + to + "\\(").matcher(bodies.get(from)).find()) continue;
            open.add(to);
            String more = from + " " + deepest(to, bodies, open);
            open.remove(to);
            if (more.split(" ").length > longest.split(" ").length) longest = more;
        }
        return longest;
    }
}
