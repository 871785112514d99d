import java.io.IOException;
import java.lang.reflect.Constructor;
import java.lang.reflect.Field;
import java.lang.reflect.Method;
import java.lang.reflect.Modifier;
import java.nio.file.Files;
import java.nio.file.Path;
import java.util.ArrayDeque;
import java.util.Arrays;
import java.util.Deque;
import java.util.Map;
import java.util.Set;
import java.util.TreeMap;
import java.util.TreeSet;
import java.util.regex.Matcher;
import java.util.regex.Pattern;

/** The public face of the document, and those rules of LANGUAGE.md that are plain to see. */
public final class FormTest {
    private static final String[] FACE = {
        "boolean accounts(int, int)",
        "boolean action(int, int, int)",
        "boolean drop(int)",
        "boolean useless(int)",
        "int after(int)",
        "int allWays(int, int)",
        "int doable(int)",
        "int method(int, int, int)",
        "int methods()",
        "int nextEnd(int, int, int)",
        "int planned(int, int, int)",
        "int rub()",
        "int shortest(int, int, int)",
        "int ways(int, int, int)",
        "int write(int)",
    };

    private static final String[] FORBIDDEN_WORDS = {
        "package", "import", "throw", "throws", "try", "catch", "finally", "synchronized", "assert",
        "instanceof", "null", "float", "double", "interface", "enum", "record", "extends",
        "implements", "protected", "String", "Math", "Integer", "Long", "System", "Arrays", "Object",
    };

    // LANGUAGE.md, rule 10.
    private static final int MOST_PARAMETERS = 7;
    private static final int MOST_LINES = 60;
    private static final int MOST_DEEP = 6;
    private static final int MOST_FIELDS = 40;

    private static int wrong = 0;

    private static void check(boolean fits, String what) {
        if (!fits) {
            wrong++;
            System.out.println("not as due: " + what);
        }
    }

    private static String words(Class<?>[] types) {
        StringBuilder text = new StringBuilder();
        for (Class<?> type : types) {
            text.append(text.length() == 0 ? "" : ", ").append(type.getSimpleName());
        }
        return text.toString();
    }

    private static void methods() {
        Set<String> face = new TreeSet<>();
        Set<String> publicNames = new TreeSet<>();
        for (Method m : MethodPlanner.class.getDeclaredMethods()) {
            if (Modifier.isPublic(m.getModifiers())) {
                String head = m.getReturnType().getSimpleName() + " " + m.getName();
                face.add(head + "(" + words(m.getParameterTypes()) + ")");
                publicNames.add(m.getName());
                check(!Modifier.isStatic(m.getModifiers()), m.getName() + " is of the object");
            }
        }
        check(face.equals(new TreeSet<>(Arrays.asList(FACE))), "the public methods: " + face);
        for (Method m : MethodPlanner.class.getDeclaredMethods()) {
            int mode = m.getModifiers();
            check(Modifier.isPublic(mode) || Modifier.isPrivate(mode), m.getName() + " is private");
            check(Modifier.isPublic(mode) || !publicNames.contains(m.getName()), m.getName() + " has its own name");
            check(m.getParameterCount() <= MOST_PARAMETERS, m.getName() + " has few parameters");
        }
    }

    private static void fields() {
        Set<String> face = new TreeSet<>();
        int ofTheObject = 0;
        for (Field f : MethodPlanner.class.getDeclaredFields()) {
            int mode = f.getModifiers();
            Class<?> type = f.getType();
            if (Modifier.isPublic(mode)) {
                face.add(Modifier.toString(mode) + " " + type.getSimpleName() + " " + f.getName());
            } else {
                check(Modifier.isPrivate(mode), f.getName() + " is private");
            }
            Class<?> element = type.isArray() ? type.getComponentType() : type;
            check(element.isPrimitive(), f.getName() + " is a number or a one-dimensional array");
            if (Modifier.isStatic(mode)) {
                check(Modifier.isFinal(mode) && (type == int.class || type == long.class),
                        f.getName() + " is a constant");
            } else {
                ofTheObject++;
                check(!type.isArray() || Modifier.isFinal(mode), f.getName() + " names one array for good");
            }
        }
        check(ofTheObject <= MOST_FIELDS, "few fields: " + ofTheObject);
        Set<String> want = Set.of("public static final int BAD", "public static final int FULL");
        check(face.equals(want), "the public fields: " + face);
        check(MethodPlanner.BAD == -1 && MethodPlanner.FULL == -2, "the values of BAD and FULL");
    }

    private static String codeWithoutComments() throws IOException {
        String text = Files.readString(Path.of("src/main/java/MethodPlanner.java"));
        return text.replaceAll("(?s)/\\*.*?\\*/", "").replaceAll("//[^\n]*", "");
    }

    private static void source(String code) {
        for (String word : FORBIDDEN_WORDS) {
            check(!Pattern.compile("\\b" + word + "\\b").matcher(code).find(), "no " + word);
        }
        check(!code.contains("->") && !code.contains("::"), "no lambda or method reference");
        check(!code.contains("\"") && !code.contains("[]["), "no text and no array of arrays");
        for (String line : code.split("\n")) {
            if (line.contains("new ")) {
                check(line.matches("    private final (int|long)\\[] \\w+ = new (int|long)\\[[A-Z_]+];"),
                        "arrays are made in fields: " + line);
            }
        }
        Matcher inner = Pattern.compile("\\w+\\([^();{}]*\\b(?!if\\b|for\\b|while\\b)\\w+\\(").matcher(code);
        while (inner.find()) {
            String outer = inner.group();
            check(outer.matches("(?s)(if|for|while|return|switch)\\b.*"),
                    "no call in the arguments of another: " + outer);
        }
    }

    /** That every loop counts from its first line to a bound, and nothing else changes its counter. */
    private static void loops(String code) {
        check(!Pattern.compile("\\b(while|do)\\b").matcher(code).find(), "loops are for loops");
        Matcher loop = Pattern.compile("(?m)^( *)for \\((.*)\\) \\{\n((?:.*\n)*?)\\1\\}").matcher(code);
        int from = 0;
        int loops = 0;
        // From the head on, not from the end on, since loops stand in loops.
        for (; loop.find(from); from = loop.start(3)) {
            loops++;
            Matcher head = Pattern.compile("int (\\w+) = [^;]+; \\1 (<|<=|>=) [^;]+; \\1(\\+\\+|--)")
                    .matcher(loop.group(2));
            boolean counts = head.matches();
            check(counts && head.group(2).equals(">=") == head.group(3).equals("--"),
                    "a counter against a bound: " + loop.group(2));
            if (counts) {
                String changed = "\\b" + head.group(1) + "( [-+*/%&|^<>]*= |\\+\\+|--)";
                check(!Pattern.compile(changed).matcher(loop.group(3)).find(),
                        "the counter is left to count: " + loop.group(2));
            }
        }
        check(loops == code.split("\\bfor\\b").length - 1, "every loop is looked at: " + loops);
    }

    /** The methods by name, each with its lines from head to end. */
    private static Map<String, String> bodies(String code) {
        Map<String, String> bodies = new TreeMap<>();
        Matcher method = Pattern.compile("(?m)^    (?:public|private) (?:static )?(?:\\w+ )?(\\w+)\\([^)]*\\) \\{\n"
                + "(?:.*\n)*?    \\}").matcher(code);
        while (method.find()) {
            check(bodies.put(method.group(1), method.group()) == null, "one method of a name: " + method.group(1));
        }
        return bodies;
    }

    private static void methodsAreShortAndFlat(String code) {
        Map<String, String> bodies = bodies(code);
        // The constructor is no declared method.
        check(bodies.size() == MethodPlanner.class.getDeclaredMethods().length + 1,
                "every method is looked at: " + bodies.keySet());
        for (Map.Entry<String, String> method : bodies.entrySet()) {
            long lines = method.getValue().lines().count();
            check(lines <= MOST_LINES, method.getKey() + " is short: " + lines);
            followCalls(bodies, method.getKey(), new ArrayDeque<>());
        }
    }

    private static void followCalls(Map<String, String> bodies, String name, Deque<String> callers) {
        check(!callers.contains(name), "no recursion: " + name + " by " + callers);
        if (callers.contains(name)) {
            return;
        }
        callers.push(name);
        check(callers.size() <= MOST_DEEP, "calls are not too deep: " + callers);
        String body = bodies.get(name);
        Matcher call = Pattern.compile("\\b(\\w+)\\(").matcher(body.substring(body.indexOf('{')));
        while (call.find()) {
            if (bodies.containsKey(call.group(1))) {
                followCalls(bodies, call.group(1), callers);
            }
        }
        callers.pop();
    }

    public static void main(String[] args) throws IOException {
        int mode = MethodPlanner.class.getModifiers();
        check(Modifier.isPublic(mode) && Modifier.isFinal(mode), "the class is public and final");
        check(MethodPlanner.class.getDeclaredClasses().length == 0, "no nested class");
        Constructor<?>[] makers = MethodPlanner.class.getDeclaredConstructors();
        check(makers.length == 1 && makers[0].getParameterCount() == 0
                && Modifier.isPublic(makers[0].getModifiers()), "one public constructor without parameters");
        methods();
        fields();
        String code = codeWithoutComments();
        source(code);
        loops(code);
        methodsAreShortAndFlat(code);
        if (wrong != 0) {
            System.exit(1);
        }
        System.out.println("the form is as due");
    }
}
