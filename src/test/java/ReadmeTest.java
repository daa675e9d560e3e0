import java.io.IOException;
import java.lang.reflect.Field;
import java.lang.reflect.InvocationTargetException;
import java.lang.reflect.Method;
import java.lang.reflect.Modifier;
import java.nio.file.Files;
import java.nio.file.Path;
import java.util.ArrayList;
import java.util.List;
import java.util.Set;
import java.util.TreeSet;
import java.util.regex.Matcher;
import java.util.regex.Pattern;
import java.util.stream.Collectors;
import java.util.stream.Stream;

/** What README.md shows: each call of its examples with its answer, the ops, and the table of tests. */
public final class ReadmeTest {
    private static final String FENCE = "```";
    private static final String NEW_OBJECT = "PluginRunner runner = new PluginRunner();";
    private static final Pattern CALL = Pattern.compile("runner\\.(\\w+)\\(([^)]*)\\);\\s+// (-?\\w+)(?:: (.+))?");
    private static final Pattern ROW_OF_A_TEST = Pattern.compile("\\| (\\w+Test) \\|.*");
    private static final String[] OPS = {"CONST", "GET", "SET", "ADD", "SUB", "MUL", "DIV", "LESS", "EQUAL", "DROP", "LOAD",
        "STORE", "BLOCK", "LOOP", "END", "BRANCH", "BRANCH IF", "CALL", "HOST", "RETURN"};
    private static final Set<String> WITHOUT_ARGUMENT = Set.of("ADD", "SUB", "MUL", "DIV", "LESS", "EQUAL", "DROP", "BLOCK",
            "LOOP", "END", "RETURN");
    private static final Path README = Path.of("README.md");
    private static final Path TESTS = Path.of("src/test/java");

    private final Kit kit = new Kit("ReadmeTest");
    private final Set<String> shown = new TreeSet<>();
    private PluginRunner runner = null;

    public static void main(String[] args) throws IOException, ReflectiveOperationException {
        ReadmeTest test = new ReadmeTest();
        List<String> lines = Files.readAllLines(README);
        test.examples(lines);
        test.constants(lines);
        test.ops(lines);
        test.tableOfTests(lines);
        test.wayToRunTests(lines);
        test.kit.close();
    }

    private void examples(List<String> lines) throws ReflectiveOperationException {
        boolean inside = false;
        for (String line : lines) {
            if (line.startsWith(FENCE)) {
                inside = line.equals(FENCE + "java");
                runner = null;
            } else if (inside) {
                example(line);
            }
        }
        Set<String> face = Stream.of(PluginRunner.class.getDeclaredMethods())
                .filter(method -> Modifier.isPublic(method.getModifiers()))
                .map(Method::getName).collect(Collectors.toSet());
        kit.holds("each method of the face is shown: " + shown, shown.equals(new TreeSet<>(face)));
    }

    private void example(String line) throws ReflectiveOperationException {
        if (line.equals(NEW_OBJECT)) {
            kit.holds("one object in an example", runner == null);
            runner = new PluginRunner();
            return;
        }
        Matcher call = CALL.matcher(line);
        boolean read = call.matches() && runner != null;
        kit.holds("a call with its answer: " + line, read);
        if (read) {
            shown.add(call.group(1));
            List<Object> arguments = new ArrayList<>();
            long got = answer(call.group(1), call.group(2), arguments);
            kit.due(line, got, answerInWords(call.group(3)));
            if (call.group(1).equals("emit") && got >= 0) {
                kit.holds("the op's name: " + line, startsWithName(call.group(4), arguments));
            }
        }
    }

    private long answer(String name, String written, List<Object> arguments) throws ReflectiveOperationException {
        for (Method method : PluginRunner.class.getMethods()) {
            if (method.getName().equals(name)) {
                for (String one : written.isEmpty() ? new String[0] : written.split(", ")) {
                    boolean number = method.getParameterTypes()[arguments.size()] == int.class;
                    arguments.add(number ? (Object) Integer.valueOf(one) : (Object) Boolean.valueOf(one.equals("true")));
                }
                return ((Number) called(method, arguments)).longValue();
            }
        }
        throw new IllegalStateException("no such method: " + name);
    }

    private Object called(Method method, List<Object> arguments) throws ReflectiveOperationException {
        try {
            return method.invoke(runner, arguments.toArray());
        } catch (InvocationTargetException thrown) {
            throw new IllegalStateException("a call threw", thrown);
        }
    }

    /** A number, or the name of one of the face's constants. */
    private static long answerInWords(String words) throws ReflectiveOperationException {
        if (words.matches("-?\\d+")) {
            return Long.parseLong(words);
        }
        Field constant = PluginRunner.class.getField(words);
        return ((Number) constant.get(null)).longValue();
    }

    /** "HOST 2, and more words" for the arguments f, 18, 2. */
    private static boolean startsWithName(String words, List<Object> arguments) {
        String name = OPS[(Integer) arguments.get(1)];
        String due = WITHOUT_ARGUMENT.contains(name) ? name : name + " " + arguments.get(2);
        return words != null && (words.equals(due) || words.startsWith(due + ", "));
    }

    private void constants(List<String> lines) {
        String all = String.join(" ", lines);
        for (Field constant : PluginRunner.class.getFields()) {
            kit.holds(constant.getName() + " is named", Pattern.compile("\\b" + constant.getName() + "\\b").matcher(all).find());
        }
    }

    /** The list of op numbers, compared with the names by which the other tests write code. */
    private void ops(List<String> lines) throws ReflectiveOperationException {
        List<String> listed = new ArrayList<>();
        Pattern numbered = Pattern.compile("(\\d+ [A-Z]+(?: IF)?)[,|]");
        for (String line : lines) {
            if (line.startsWith("| ")) {
                numbered.matcher(line.replace(" |", "|")).results().forEach(found -> listed.add(found.group(1)));
            }
        }
        kit.due("ops listed", listed.size(), OPS.length);
        for (int op = 0; op < OPS.length; op++) {
            kit.holds("listed: " + op + " " + OPS[op], listed.contains(op + " " + OPS[op]));
            kit.due("number of " + OPS[op], Kit.class.getDeclaredField(OPS[op].replace(' ', '_')).getInt(null), op);
        }
    }

    private void tableOfTests(List<String> lines) throws IOException {
        Set<String> named = lines.stream().map(ROW_OF_A_TEST::matcher).filter(Matcher::matches)
                .map(row -> row.group(1)).collect(Collectors.toCollection(TreeSet::new));
        try (Stream<Path> files = Files.list(TESTS)) {
            Set<String> there = files.map(file -> file.getFileName().toString()).filter(name -> name.endsWith("Test.java"))
                    .map(name -> name.replace(".java", "")).collect(Collectors.toCollection(TreeSet::new));
            kit.holds("the table names " + named + ", there are " + there, named.equals(there));
        }
    }

    private void wayToRunTests(List<String> lines) {
        int at = lines.indexOf(FENCE + "sh");
        kit.holds("a way to run the tests is shown", at >= 0);
        kit.holds("it can be run", at >= 0 && Files.isExecutable(Path.of(lines.get(at + 1))));
    }
}
