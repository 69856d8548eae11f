import java.io.IOException;
import java.lang.reflect.Constructor;
import java.lang.reflect.Field;
import java.lang.reflect.Method;
import java.lang.reflect.Modifier;
import java.nio.file.Files;
import java.nio.file.Path;
import java.util.Map;
import java.util.Set;
import java.util.TreeMap;
import java.util.TreeSet;
import java.util.regex.Matcher;
import java.util.regex.Pattern;

// The public face that DOC.md gives, and those rules of LANGUAGE.md that a glance at the class can tell.
public final class OnionCircuitsFace {
    private static final Path SOURCE = Path.of("src/main/java/OnionCircuits.java");

    private static final Set<String> FACE = Set.of(
        "public static final int BAD_CIRCUIT = -1",
        "public static final int BAD_RELAY = -2",
        "public static final int BAD_STREAM = -3",
        "public static final int FULL = -4",
        "public static final int NO_CIRCUIT = -5",
        "public static final int WINDOW = -6",
        "public static final int NOTHING = -7",
        "public static final int OPEN = -8",
        "public OnionCircuits(int)",
        "public int extend(int,int)",
        "public int destroy(int)",
        "public int open(int,int)",
        "public int send(int,int,int)",
        "public int reply(int,int,int)",
        "public int move(int,int,boolean)",
        "public int tamper(int,int,boolean,int)",
        "public int got(int,int,boolean)",
        "public int byteGot(int,int,boolean,int)",
        "public int waiting(int,int,boolean)",
        "public int hops(int)");

    private static final Map<String, String> BANNED = Map.of(
        "rule 1", "\\b(enum|record|interface)\\b",
        "rule 2", "\\b(float|double|var)\\b|\"|\\[]\\s*\\[",
        "rule 3", "\\b(import|package)\\b|\\b(getClass|hashCode|equals|toString|notify|notifyAll|wait|clone)\\(",
        "rule 4", "\\bnull\\b|\\[]\\s*\\w+\\s*=\\s*\\{",
        "rule 5", "\\bstatic\\s*\\{",
        "rule 6", "\\b(throws?|try|catch|finally|synchronized|assert|instanceof)\\b|->|::|\\(\\w+\\[]\\)");
    // The constants are written in capitals alone, so any other word with a capital ahead names a class.
    private static final Pattern CLASS_NAME = Pattern.compile("\\b[A-Z]\\w*[a-z]\\w*\\b");
    private static final Pattern COUNTED_LOOP = Pattern.compile(
        "\\bfor \\(int (\\w+) = [^;]+; \\1 < [^;()]+; \\1\\+\\+\\) \\{(.*?)\\n        }", Pattern.DOTALL);

    private static final Set<Class<?>> TYPES = Set.of(int.class, long.class, short.class, byte.class, char.class,
        boolean.class, int[].class, long[].class, short[].class, byte[].class, char[].class, boolean[].class);

    private static final int DEEPEST_CALLS = 6;
    private static final int LONGEST_METHOD = 60;

    private static int wrong = 0;

    private static void complain(String what) {
        wrong++;
        System.out.println(what);
    }

    private static String constant(Field field) throws IllegalAccessException {
        boolean isStatic = Modifier.isStatic(field.getModifiers());
        String value = isStatic ? " = " + field.get(null) : "";
        return Modifier.toString(field.getModifiers()) + " " + field.getType() + " " + field.getName() + value;
    }

    private static void face() throws IllegalAccessException {
        Class<?> type = OnionCircuits.class;
        if (type.getModifiers() != (Modifier.PUBLIC | Modifier.FINAL)) {
            complain("the class is " + Modifier.toString(type.getModifiers()));
        }
        Set<String> seen = new TreeSet<>();
        for (Field field : type.getDeclaredFields()) {
            if (!Modifier.isPrivate(field.getModifiers())) {
                seen.add(constant(field));
            }
        }
        for (Constructor<?> constructor : type.getDeclaredConstructors()) {
            seen.add(constructor.toString());
        }
        for (Method method : type.getDeclaredMethods()) {
            if (!Modifier.isPrivate(method.getModifiers())) {
                seen.add(method.toString().replace("OnionCircuits.", ""));
            }
        }
        if (!seen.equals(FACE)) {
            complain("the face is " + seen + ", due is " + new TreeSet<>(FACE));
        }
        if (type.getDeclaredClasses().length != 0) {
            complain("rule 1: there is a nested class");
        }
    }

    private static void membersKeepToTheRules() {
        int fields = 0;
        for (Field field : OnionCircuits.class.getDeclaredFields()) {
            dueType(field.getType(), field);
            boolean number = field.getType() == int.class || field.getType() == long.class;
            if (!Modifier.isStatic(field.getModifiers())) {
                fields++;
            } else if (!number || !Modifier.isFinal(field.getModifiers())) {
                complain("rule 5: " + field);
            }
        }
        if (fields > 40) {
            complain("rule 10: " + fields + " fields");
        }
        Set<String> names = new TreeSet<>();
        for (Method method : OnionCircuits.class.getDeclaredMethods()) {
            if (!names.add(method.getName())) {
                complain("rule 1: two methods are named " + method.getName());
            }
            if (method.getParameterCount() > 7) {
                complain("rule 10: " + method);
            }
            for (Class<?> type : method.getParameterTypes()) {
                dueType(type, method);
            }
            if (method.getReturnType() != void.class) {
                dueType(method.getReturnType(), method);
            }
            if (method.getReturnType().isArray()) {
                complain("rule 4: an array is answered by " + method);
            }
        }
    }

    private static void dueType(Class<?> type, Object member) {
        if (!TYPES.contains(type)) {
            complain("rule 2: " + member);
        }
    }

    private static void wordsKeepToTheRules(String code) {
        BANNED.forEach((rule, banned) -> {
            Matcher found = Pattern.compile(banned).matcher(code);
            while (found.find()) {
                complain(rule + ": " + found.group());
            }
        });
        Matcher name = CLASS_NAME.matcher(code);
        while (name.find()) {
            if (!name.group().equals("OnionCircuits")) {
                complain("rule 3: " + name.group());
            }
        }
        Matcher made = Pattern.compile("^.*\\bnew\\b.*$", Pattern.MULTILINE).matcher(code);
        while (made.find()) {
            if (!made.group().matches("    private final (int|boolean)\\[] \\w+ = new (int|boolean)\\[[A-Z_]+];")) {
                complain("rule 4: " + made.group());
            }
        }
        Matcher nested = Pattern.compile("\\b(?!if|for|while|switch|return)\\w+\\([^()]*\\b\\w+\\(").matcher(code);
        while (nested.find()) {
            complain("rule 10: a call inside the arguments of a call: " + nested.group());
        }
    }

    // The rules leave more kinds of loop than these, but the class needs none, and here an end is plain to see.
    private static void loopsKeepToTheRules(String code) {
        if (Pattern.compile("\\b(while|do)\\b").matcher(code).find()) {
            complain("rule 8: a loop that doesn't count");
        }
        int counted = 0;
        Matcher loop = COUNTED_LOOP.matcher(code);
        while (loop.find()) {
            counted++;
            String counterSet = "\\b" + loop.group(1) + "(\\+\\+|--|\\s*[^\\w\\s<>=!]?=[^=])";
            if (Pattern.compile(counterSet).matcher(loop.group(2)).find()) {
                complain("rule 8: a counter is set inside its loop: " + loop.group());
            }
        }
        long loops = Pattern.compile("\\bfor\\b").matcher(code).results().count();
        if (counted != loops) {
            complain("rule 8: of " + loops + " loops, " + counted + " count up to a bound");
        }
    }

    private static Map<String, String> bodies(String code) {
        Map<String, String> bodies = new TreeMap<>();
        Pattern method = Pattern.compile("^    (?:public|private)[^;=\\n]*?(\\w+)\\([^\\n]*\\{\\n(.*?)^    }$",
            Pattern.MULTILINE | Pattern.DOTALL);
        Matcher found = method.matcher(code);
        while (found.find()) {
            bodies.put(found.group(1), found.group(2));
        }
        return bodies;
    }

    // Method by method, how deep its calls go; a round that still deepens after the limit is met is a recursion.
    private static void callsKeepToTheRules(String code) {
        Map<String, String> bodies = bodies(code);
        if (bodies.size() != OnionCircuits.class.getDeclaredMethods().length + 1) {
            complain("this test sees only the methods " + bodies.keySet());
        }
        Map<String, Integer> depths = new TreeMap<>();
        for (int round = 0; round <= DEEPEST_CALLS; round++) {
            for (String name : bodies.keySet()) {
                int depth = 1;
                for (String called : bodies.keySet()) {
                    if (Pattern.compile("\\b" + called + "\\(").matcher(bodies.get(name)).find()) {
                        depth = Math.max(depth, 1 + depths.getOrDefault(called, 1));
                    }
                }
                depths.put(name, depth);
            }
        }
        for (String name : bodies.keySet()) {
            if (depths.get(name) > DEEPEST_CALLS) {
                complain("rules 8 and 10: " + name + " recurs or calls too deep");
            }
            if (bodies.get(name).lines().count() > LONGEST_METHOD) {
                complain("rule 10: " + name + " is too long");
            }
        }
    }

    public static void main(String[] args) throws IOException, IllegalAccessException {
        String code = Files.readString(SOURCE).replaceAll("//.*", "");
        face();
        membersKeepToTheRules();
        wordsKeepToTheRules(code);
        loopsKeepToTheRules(code);
        callsKeepToTheRules(code);
        System.out.println(wrong == 0 ? "the face is as due" : wrong + " faults in the face");
        if (wrong != 0) {
            System.exit(1);
        }
    }
}
