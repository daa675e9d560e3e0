import java.util.Arrays;
import java.util.List;

/** What the tests of the document's sentences share: code as text, and what is asked of it. */
abstract class Edges {
    static final int LEAST = Integer.MIN_VALUE;
    static final int MOST = Integer.MAX_VALUE;
    private static final List<String> NAMES = Arrays.asList("CONST", "GET", "SET", "ADD", "SUB", "MUL", "DIV", "LESS",
            "EQUAL", "DROP", "LOAD", "STORE", "BLOCK", "LOOP", "END", "BRANCH", "BRANCH_IF", "CALL", "HOST", "RETURN");

    private final Sentences sentences;

    Edges(Sentences sentences) {
        this.sentences = sentences;
    }

    abstract void all();

    final void test(String section, String words, Runnable test) {
        sentences.test(section, words, test);
    }

    final void term(String words, Runnable test) {
        test("Terms", words, test);
    }

    final void promise(int number, String words, Runnable test) {
        test("Promise " + number, words, test);
    }

    final void due(String call, long got, long want) {
        sentences.kit.due(call, got, want);
    }

    final void holds(String what, boolean got) {
        sentences.kit.holds(what, got);
    }

    /**
     * A new object with these functions, each "takes gives locals: code"; the code is "CONST 5, ADD",
     * an argument that isn't told being 0.
     */
    final PluginRunner written(String... functions) {
        PluginRunner x = new PluginRunner();
        for (int f = 0; f < functions.length; f++) {
            String[] parts = functions[f].split(":", 2);
            String[] head = parts[0].trim().split(" ");
            due("function(" + parts[0] + ")", x.function(number(head[0]), number(head[1]), number(head[2])), f);
            add(x, f, parts[1]);
        }
        return x;
    }

    final void add(PluginRunner x, int f, String code) {
        for (String instruction : code.split(",")) {
            String[] words = instruction.trim().split(" ");
            if (!words[0].isEmpty()) {
                int number = x.count(f + 1);
                due("emit of " + instruction, x.emit(f, op(words[0]), words.length > 1 ? number(words[1]) : 0), number);
            }
        }
    }

    static int op(String name) {
        return NAMES.indexOf(name);
    }

    static String name(int op) {
        return NAMES.get(op);
    }

    private static int number(String word) {
        return Integer.parseInt(word);
    }

    final PluginRunner checked(String... functions) {
        PluginRunner x = written(functions);
        due("check() of " + Arrays.toString(functions), x.check(), PluginRunner.DONE);
        return x;
    }

    /** Checked, and function 0 started with a and b. */
    final PluginRunner started(int a, int b, String... functions) {
        PluginRunner x = checked(functions);
        due("start(0, a, b)", x.start(0, a, b), PluginRunner.DONE);
        return x;
    }

    final PluginRunner started(String... functions) {
        return started(0, 0, functions);
    }

    /** A run that asked host 0 with 7 and waits; it gives the answer. */
    final PluginRunner waiting() {
        PluginRunner x = started("0 1 0: CONST 7, HOST 0");
        due("grant(0, true)", x.grant(0, true), PluginRunner.DONE);
        due("resume(2)", x.resume(2), PluginRunner.WAITING);
        return x;
    }

    /** Starts function 0 anew and runs it to the end. */
    final void runs(PluginRunner x, int a, int b, int outcome) {
        due("start(0, " + a + ", " + b + ")", x.start(0, a, b), PluginRunner.DONE);
        due("resume(200) with " + a + ", " + b, x.resume(200), outcome);
    }

    final void gives(long want, int a, int b, String... functions) {
        PluginRunner x = checked(functions);
        runs(x, a, b, PluginRunner.ENDED);
        due("result() of " + Arrays.toString(functions) + " with " + a + ", " + b, x.result(), want);
    }

    final void traps(int trap, int a, int b, String... functions) {
        PluginRunner x = checked(functions);
        runs(x, a, b, trap);
        due("runs trapped", x.count(8), 1);
        due("functions under way", x.state(0), -1);
    }

    /** The run has so much fuel, uses it all, and comes to this instruction of the innermost function. */
    final PluginRunner comesTo(int next, int fuel, int a, int b, String... functions) {
        PluginRunner x = started(a, b, functions);
        due("resume(" + fuel + ") of " + Arrays.toString(functions), x.resume(fuel), PluginRunner.NO_FUEL);
        due("next instruction after " + fuel + " of " + Arrays.toString(functions), x.state(2), next);
        return x;
    }

    /** The check finds a fault of this sort at an instruction of a function. */
    final void faulty(int sort, int function, int instruction, String... functions) {
        PluginRunner x = written(functions);
        String what = Arrays.toString(functions);
        due("check() of " + what, x.check(), -1000 - 100 * function - instruction);
        due("fault() of " + what, x.fault(), sort);
        due("CHECKED of " + what, x.count(6), 0);
    }

    final void faultless(String... functions) {
        PluginRunner x = checked(functions);
        due("fault() of " + Arrays.toString(functions), x.fault(), 0);
        due("CHECKED of " + Arrays.toString(functions), x.count(6), 1);
    }

    final void noRun(PluginRunner x) {
        for (int what = 0; what <= 5; what++) {
            due("state(" + what + ") without a run", x.state(what), -1);
        }
        due("resume(1) without a run", x.resume(1), PluginRunner.STATE);
        due("reply(1) without a run", x.reply(1), PluginRunner.STATE);
    }

    static String times(int n, String code) {
        return code.repeat(n);
    }
}
