import java.io.IOException;
import java.lang.reflect.Field;
import java.lang.reflect.InvocationTargetException;
import java.lang.reflect.Method;
import java.lang.reflect.Modifier;
import java.nio.file.Files;
import java.nio.file.Path;
import java.util.ArrayList;
import java.util.Comparator;
import java.util.List;
import java.util.Map;
import java.util.Set;
import java.util.TreeMap;
import java.util.TreeSet;
import java.util.regex.Matcher;
import java.util.regex.Pattern;
import java.util.stream.Collectors;
import java.util.stream.Stream;

// What README.md shows: its examples answer what it says, its tables are those of the class, it names every
// test, and its commands work.
public final class OnionCircuitsReadme {
    private static final Path README = Path.of("README.md");
    private static final Path TESTS = Path.of("src/test/java");
    private static final String RUN_ALL = ".ci/run";

    private static final Pattern BLOCK = Pattern.compile("^```(\\w+)\\n(.*?)^```$",
        Pattern.MULTILINE | Pattern.DOTALL);
    private static final Pattern MADE = Pattern.compile("OnionCircuits net = new OnionCircuits\\((-?\\d+)\\);( *//.*)?");
    private static final Pattern CALL = Pattern.compile("net\\.(\\w+)\\(([^()]*)\\); *// (-?\\d+|[A-Z_]+)(: .+)?");
    private static final Pattern CALL_ROW = Pattern.compile("^\\| `(\\w+)\\(([^()]*)\\)` \\|", Pattern.MULTILINE);
    private static final Pattern CONSTANT_ROW = Pattern.compile("^\\| `([A-Z_]+)` \\| (\\S+) \\|", Pattern.MULTILINE);
    private static final Pattern TEST_ITEM = Pattern.compile("^- `src/test/java/(\\w+\\.java)`: ", Pattern.MULTILINE);

    private static final Map<String, Method> METHODS = new TreeMap<>();
    private static final Map<String, Integer> CONSTANTS = new TreeMap<>();
    private static final Set<String> NAMES_SHOWN = new TreeSet<>();

    private static int wrong = 0;

    private static void complain(String what) {
        wrong++;
        System.out.println("README.md: " + what);
    }

    private static void dueSame(String what, Set<String> shown, Set<String> want) {
        if (!shown.equals(want)) {
            complain(what + ": shown are " + shown + ", due are " + want);
        }
    }

    private static void lookAtTheClass() throws IllegalAccessException {
        for (Method method : OnionCircuits.class.getDeclaredMethods()) {
            if (Modifier.isPublic(method.getModifiers())) {
                METHODS.put(method.getName(), method);
            }
        }
        for (Field field : OnionCircuits.class.getDeclaredFields()) {
            if (Modifier.isPublic(field.getModifiers())) {
                CONSTANTS.put(field.getName(), field.getInt(null));
            }
        }
    }

    private static List<String> blocks(String text, String language) {
        List<String> blocks = new ArrayList<>();
        Matcher block = BLOCK.matcher(text);
        while (block.find()) {
            if (block.group(1).equals(language)) {
                blocks.add(block.group(2));
            }
        }
        if (blocks.isEmpty()) {
            complain("it has no block of " + language);
        }
        return blocks;
    }

    // ---- Examples

    private static Object argument(String text, Class<?> type) {
        if (type == boolean.class && (text.equals("true") || text.equals("false"))) {
            return Boolean.valueOf(text);
        }
        return type == int.class && text.matches("-?\\d+") ? Integer.valueOf(text) : null;
    }

    private static Object[] arguments(String text, Class<?>[] types) {
        String[] words = text.split(", ");
        if (words.length != types.length) {
            return null;
        }
        Object[] arguments = new Object[words.length];
        for (int i = 0; i < words.length; i++) {
            arguments[i] = argument(words[i], types[i]);
            if (arguments[i] == null) {
                return null;
            }
        }
        return arguments;
    }

    private static Integer answerSaid(String word) {
        return word.matches("-?\\d+") ? Integer.valueOf(word) : CONSTANTS.get(word);
    }

    private static void runCall(OnionCircuits net, Matcher call) throws ReflectiveOperationException {
        Method method = METHODS.get(call.group(1));
        Integer want = answerSaid(call.group(3));
        Object[] arguments = method == null ? null : arguments(call.group(2), method.getParameterTypes());
        if (net == null || want == null || arguments == null) {
            complain("this can't be run: " + call.group());
            return;
        }
        NAMES_SHOWN.add(call.group(1));
        NAMES_SHOWN.add(call.group(3));
        try {
            Object answer = method.invoke(net, arguments);
            if (!want.equals(answer)) {
                complain("answered was " + answer + " where it shows " + call.group());
            }
        } catch (InvocationTargetException e) {
            complain(call.group() + " threw " + e.getCause());
        }
    }

    private static void runExample(String example) throws ReflectiveOperationException {
        OnionCircuits net = null;
        for (String line : example.lines().toList()) {
            Matcher made = MADE.matcher(line);
            Matcher call = CALL.matcher(line);
            if (made.matches()) {
                net = new OnionCircuits(Integer.parseInt(made.group(1)));
            } else if (call.matches()) {
                runCall(net, call);
            } else {
                complain("neither a new object nor a call with its answer: " + line);
            }
        }
    }

    private static void examples(String text) throws ReflectiveOperationException {
        for (String example : blocks(text, "java")) {
            runExample(example);
        }
        Set<String> due = new TreeSet<>(METHODS.keySet());
        due.addAll(CONSTANTS.keySet());
        NAMES_SHOWN.removeIf(name -> name.matches("-?\\d+"));
        dueSame("calls and refusals in the examples", NAMES_SHOWN, due);
    }

    // ---- Tables and the list of tests

    private static void tables(String text) {
        Set<String> calls = new TreeSet<>();
        Matcher call = CALL_ROW.matcher(text);
        while (call.find()) {
            calls.add(call.group(1) + " of " + call.group(2).split(", ").length);
        }
        Set<String> callsDue = new TreeSet<>();
        METHODS.forEach((name, method) -> callsDue.add(name + " of " + method.getParameterCount()));
        dueSame("the table of calls", calls, callsDue);

        Set<String> constants = new TreeSet<>();
        Matcher constant = CONSTANT_ROW.matcher(text);
        while (constant.find()) {
            constants.add(constant.group(1) + " = " + constant.group(2));
        }
        Set<String> constantsDue = new TreeSet<>();
        CONSTANTS.forEach((name, value) -> constantsDue.add(name + " = " + value));
        dueSame("the table of refusals", constants, constantsDue);
    }

    private static void listOfTests(String text) throws IOException {
        Set<String> listed = new TreeSet<>();
        Matcher item = TEST_ITEM.matcher(text);
        while (item.find()) {
            listed.add(item.group(1));
        }
        try (Stream<Path> files = Files.list(TESTS)) {
            Set<String> due = files.map(file -> file.getFileName().toString()).collect(Collectors.toSet());
            dueSame("the list of tests", listed, new TreeSet<>(due));
        }
    }

    // ---- Commands

    // The commands write beside the sources, so they get a copy of these, with the shared directory beside it.
    private static Path scratchCopy(Path scratch) throws IOException {
        Path project = scratch.resolve("project");
        try (Stream<Path> files = Files.walk(Path.of("src"))) {
            for (Path file : files.toList()) {
                Files.createDirectories(project.resolve(file).getParent());
                Files.copy(file, project.resolve(file));
            }
        }
        Files.createSymbolicLink(scratch.resolve("shared"), Path.of("../shared").toRealPath());
        return project;
    }

    private static void runCommands(String commands, Path directory) throws IOException, InterruptedException {
        Process shell = new ProcessBuilder("sh", "-e", "-c", commands)
            .directory(directory.toFile()).redirectErrorStream(true).start();
        String output = new String(shell.getInputStream().readAllBytes());
        int code = shell.waitFor();
        if (code != 0) {
            complain("these commands end with code " + code + ":\n" + commands + output);
        }
    }

    private static void deleteAll(Path directory) throws IOException {
        try (Stream<Path> files = Files.walk(directory)) {
            for (Path file : files.sorted(Comparator.reverseOrder()).toList()) {
                Files.delete(file);
            }
        }
    }

    private static void commands(String text) throws IOException, InterruptedException {
        List<String> blocks = new ArrayList<>(blocks(text, "sh"));
        // Run from here, it would start this test again.
        if (!blocks.remove(RUN_ALL + "\n") || !Files.isExecutable(Path.of(RUN_ALL))) {
            complain("it doesn't show " + RUN_ALL + ", or that can't be run");
        }
        Path scratch = Files.createTempDirectory("onion-readme");
        try {
            Path project = scratchCopy(scratch);
            for (String block : blocks) {
                runCommands(block, project);
            }
        } finally {
            deleteAll(scratch);
        }
    }

    public static void main(String[] args) throws Exception {
        String text = Files.readString(README);
        lookAtTheClass();
        examples(text);
        tables(text);
        listOfTests(text);
        commands(text);
        System.out.println(wrong == 0 ? "README.md holds" : wrong + " faults in README.md");
        if (wrong != 0) {
            System.exit(1);
        }
    }
}
