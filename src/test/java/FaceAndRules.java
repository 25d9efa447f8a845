import java.io.IOException;
import java.lang.reflect.Field;
import java.lang.reflect.Member;
import java.lang.reflect.Method;
import java.lang.reflect.Modifier;
import java.nio.file.Files;
import java.nio.file.Path;
import java.util.ArrayList;
import java.util.List;
import java.util.TreeSet;

/** The class shows the document's face and nothing else, and its text keeps to the rules that can be read off it. */
public final class FaceAndRules {
    private static final String[] FACE = {
        "int say(int)", "int wipe()", "int fault(int)", "int steps()", "int step(int,int,boolean)",
        "int needs(int,int)", "int man(int,int,int)", "int fit(int)", "int judge(int)",
        "int match(int,int,int)", "int middle(int,int,int,int,int)", "int last(int,int,int)",
        "int sent(int,boolean)", "int safe(int)", "int worth(int,int)", "int crowd(int,int)",
        "int rings(int)", "int ladder(int)", "int between(int,int,int,int)", "int high(int)",
        "int image(int)", "int restore(int)", "int join(int)", "int told(int)",
    };
    private static final String[] CONSTANTS = {"NONE", "UNKNOWN", "OUTSIDE", "STATE", "FULL", "NO"};
    /** What the class has no need of; without throw and catch no machine's exception can be hidden. */
    private static final String[] FORBIDDEN = {
        "import ", "package ", "throw ", "try ", "catch ", "finally", "synchronized", "assert ", "->", "::",
        "instanceof", "double", "float", "System.", "Thread", "Random", "static {", "Exact(", "while (", "do {",
    };

    private static int wrong = 0;

    public static void main(String[] args) throws IOException {
        face();
        classesInside();
        text();
        System.out.println("the face and the rules: " + wrong + " wrong");
        if (wrong != 0) System.exit(1);
    }

    private static void due(boolean holds, String what) {
        if (holds) return;
        wrong++;
        System.out.println("it does not hold: " + what);
    }

    private static String signature(Method m) {
        List<String> kinds = new ArrayList<>();
        for (Class<?> kind : m.getParameterTypes()) kinds.add(kind.getName());
        return m.getReturnType().getName() + " " + m.getName() + "(" + String.join(",", kinds) + ")";
    }

    private static void face() {
        TreeSet<String> open = new TreeSet<>(), shut = new TreeSet<>(), names = new TreeSet<>();
        for (Method m : OneWorse.class.getDeclaredMethods()) {
            if (Modifier.isPrivate(m.getModifiers())) {
                shut.add(m.getName());
            } else {
                open.add(signature(m));
                names.add(m.getName());
                due(m.getModifiers() == Modifier.PUBLIC, "public alone: " + m.getName());
            }
        }
        due(open.equals(new TreeSet<>(List.of(FACE))), "the methods are those of the document: " + open);
        shut.retainAll(names);
        due(shut.isEmpty(), "no private method bears a public one's name: " + shut);
        TreeSet<String> fields = new TreeSet<>();
        for (Field f : OneWorse.class.getDeclaredFields()) {
            if (!Modifier.isPrivate(f.getModifiers())) fields.add(f.getName());
            staticsAreFinal(f, f.getModifiers());
        }
        due(fields.equals(new TreeSet<>(List.of(CONSTANTS))), "the constants are those of the document: " + fields);
        due(OneWorse.class.getDeclaredConstructors().length == 1, "one constructor");
        due(OneWorse.class.getConstructors().length == 1, "it is public");
        due(Modifier.isFinal(OneWorse.class.getModifiers()), "the class is final");
    }

    private static void staticsAreFinal(Member m, int modifiers) {
        due(!Modifier.isStatic(modifiers) || Modifier.isFinal(modifiers), "a static field is final: " + m.getName());
    }

    private static void classesInside() {
        TreeSet<String> names = new TreeSet<>();
        for (Method m : OneWorse.class.getMethods()) {
            if (m.getDeclaringClass() == OneWorse.class) names.add(m.getName());
        }
        Class<?>[] inside = OneWorse.class.getDeclaredClasses();
        due(inside.length <= 12, "some twelve classes");
        for (Class<?> one : inside) {
            due(Modifier.isStatic(one.getModifiers()), "static: " + one.getName());
            due(!Modifier.isPublic(one.getModifiers()), "not public: " + one.getName());
            for (Field f : one.getDeclaredFields()) staticsAreFinal(f, f.getModifiers());
            for (Method m : one.getDeclaredMethods()) {
                due(!names.contains(m.getName()), "no name of the face: " + one.getName() + "." + m.getName());
                due(m.getParameterCount() <= 7, "seven parameters: " + m.getName());
            }
        }
    }

    private static void text() throws IOException {
        Path file = Path.of("src/main/java/OneWorse.java");
        due(Files.exists(file), "run from the project's directory: there is " + file);
        if (!Files.exists(file)) return;
        for (String line : Files.readAllLines(file)) {
            String code = line.replaceAll("^ */?\\*.*|//.*", "");
            for (String word : FORBIDDEN) due(!code.contains(word), "no " + word + "in: " + line);
            due(line.chars().allMatch(c -> c >= 32 && c < 127), "plain signs: " + line);
            if (code.contains("new ")) due(isMadeOnce(code), "rows and objects are made with the object: " + line);
        }
    }

    /** A field's own value, or a line of the constructor. */
    private static boolean isMadeOnce(String code) {
        return code.matches(" +private final \\S+ \\w+ = new .*;")
                || code.matches(" {8}\\w+ = new [A-Z]\\w+\\((town)?\\);");
    }
}
