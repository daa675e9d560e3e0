import java.util.ArrayDeque;
import java.util.ArrayList;
import java.util.Arrays;
import java.util.Deque;
import java.util.List;

/**
 * A second reading of the document, made to be compared with: a stack of its own for each function
 * under way, branches looked up in the parts found by one walk over the code, a function ended where
 * the document says so. It shares no code with PluginRunner but the constants.
 */
final class Model {
    /** What each op takes and puts; CALL is told by the function. */
    private static final String[] TAKES_PUTS = {"01", "01", "10", "21", "21", "21", "21", "21", "21", "10", "11", "20",
        "00", "00", "00", "00", "10", "??", "11", "00"};

    private static final class Fn {
        int takes;
        int gives;
        int locals;
        final List<int[]> code = new ArrayList<>();

        int op(int at) {
            return code.get(at)[0];
        }
    }

    private static final class Activation {
        int fn;
        int next;
        int[] locals;
        final Deque<Integer> stack = new ArrayDeque<>();
    }

    private final List<Fn> fns = new ArrayList<>();
    private final boolean[] granted = new boolean[4];
    private final int[] cells = new int[32];
    private final List<Activation> run = new ArrayList<>();
    private Integer waitsFor = null;
    private Integer asked = null;
    private boolean checked = false;
    private int fault = 0;
    private long result = PluginRunner.NONE;
    private int fuelUsed = 0;
    private int ended = 0;
    private int trapped = 0;

    private static boolean in(long x, long from, long to) {
        return from <= x && x <= to;
    }

    private void endRun() {
        run.clear();
        waitsFor = null;
        asked = null;
    }

    int function(int takes, int gives, int locals) {
        if (!(in(takes, 0, 2) && in(gives, 0, 1) && in(locals, 0, 3))) {
            return PluginRunner.REFUSED;
        }
        if (fns.size() >= 4) {
            return PluginRunner.FULL;
        }
        Fn fn = new Fn();
        fn.takes = takes;
        fn.gives = gives;
        fn.locals = locals;
        fns.add(fn);
        checked = false;
        endRun();
        return fns.size() - 1;
    }

    int emit(int f, int op, int argument) {
        if (!in(f, 0, fns.size() - 1) || !in(op, 0, 19)) {
            return PluginRunner.REFUSED;
        }
        List<int[]> code = fns.get(f).code;
        if (code.size() >= 24) {
            return PluginRunner.FULL;
        }
        code.add(new int[] {op, argument});
        checked = false;
        endRun();
        return code.size() - 1;
    }

    int erase(int f) {
        if (!in(f, 0, fns.size() - 1)) {
            return PluginRunner.REFUSED;
        }
        fns.get(f).code.clear();
        checked = false;
        endRun();
        return PluginRunner.DONE;
    }

    int check() {
        if (fns.isEmpty()) {
            return PluginRunner.STATE;
        }
        checked = false;
        for (int f = 0; f < fns.size(); f++) {
            int at = checkOne(fns.get(f));
            if (fault != 0) {
                return -1000 - 100 * f - at;
            }
        }
        checked = true;
        return PluginRunner.DONE;
    }

    /** Sets the fault, and answers the instruction that has it. */
    private int checkOne(Fn fn) {
        List<Integer> bases = new ArrayList<>(List.of(0));
        int height = 0;
        for (int at = 0; at < fn.code.size(); at++) {
            int op = fn.op(at);
            int argument = fn.code.get(at)[1];
            boolean behind = at > 0 && (fn.op(at - 1) == Kit.BRANCH || fn.op(at - 1) == Kit.RETURN);
            int open = bases.size() - 1;
            int base = bases.get(open);
            fault = 0;
            if (behind && op != Kit.END) {
                fault = 5;
            } else if (!in(argument, leastArgument(op), mostArgument(fn, op, open))) {
                fault = 1;
            } else if (takes(op, argument) > height - base) {
                fault = 2;
            } else if (op == Kit.END && (open == 0 || (height != base && !behind))) {
                fault = 3;
            } else {
                height -= takes(op, argument);
                boolean leaves = op == Kit.BRANCH || op == Kit.BRANCH_IF || op == Kit.RETURN;
                int wanted = op == Kit.RETURN || argument == open ? fn.gives : leaves ? bases.get(open - argument) : 0;
                if (leaves && height != wanted) {
                    fault = 4;
                }
                height += puts(op, argument);
            }
            if (fault != 0) {
                return at;
            }
            if (op == Kit.BLOCK || op == Kit.LOOP) {
                bases.add(height);
            } else if (op == Kit.END) {
                height = bases.remove(open);
            }
        }
        int last = fn.code.isEmpty() ? -1 : fn.op(fn.code.size() - 1);
        boolean left = last == Kit.BRANCH || last == Kit.RETURN;
        fault = bases.size() > 1 ? 3 : height != fn.gives && !left ? 4 : 0;
        return fn.code.size();
    }

    private static int leastArgument(int op) {
        boolean any = op == Kit.CONST || in(op, Kit.ADD, Kit.DROP) || in(op, Kit.BLOCK, Kit.END) || op == Kit.RETURN;
        return any ? Integer.MIN_VALUE : 0;
    }

    private int mostArgument(Fn fn, int op, int open) {
        if (op == Kit.GET || op == Kit.SET) {
            return fn.takes + fn.locals - 1;
        }
        if (op == Kit.BRANCH || op == Kit.BRANCH_IF) {
            return open;
        }
        if (op == Kit.CALL) {
            return fns.size() - 1;
        }
        return op == Kit.HOST ? 3 : op == Kit.LOAD || op == Kit.STORE ? 31 : Integer.MAX_VALUE;
    }

    private int takes(int op, int argument) {
        return op == Kit.CALL ? fns.get(argument).takes : TAKES_PUTS[op].charAt(0) - '0';
    }

    private int puts(int op, int argument) {
        return op == Kit.CALL ? fns.get(argument).gives : TAKES_PUTS[op].charAt(1) - '0';
    }

    int fault() {
        return fault;
    }

    int start(int f, int a, int b) {
        if (!checked) {
            return PluginRunner.STATE;
        }
        if (!in(f, 0, fns.size() - 1)) {
            return PluginRunner.REFUSED;
        }
        endRun();
        activate(f, new int[] {a, b});
        return PluginRunner.DONE;
    }

    private void activate(int f, int[] given) {
        Activation activation = new Activation();
        activation.fn = f;
        activation.locals = Arrays.copyOf(Arrays.copyOf(given, fns.get(f).takes), 5);
        run.add(activation);
    }

    private Activation top() {
        return run.get(run.size() - 1);
    }

    int resume(int fuel) {
        if (!in(fuel, 1, 200)) {
            return PluginRunner.REFUSED;
        }
        if (run.isEmpty() || waitsFor != null) {
            return PluginRunner.STATE;
        }
        int left = fuel;
        while (true) {
            while (!run.isEmpty() && top().next == fns.get(top().fn).code.size()) {
                endFunction();
            }
            if (run.isEmpty()) {
                return PluginRunner.ENDED;
            }
            if (left == 0) {
                return PluginRunner.NO_FUEL;
            }
            left--;
            fuelUsed++;
            int outcome = execute();
            if (outcome >= PluginRunner.ARITHMETIC) {
                trapped++;
                endRun();
            }
            if (outcome != 0) {
                return outcome;
            }
        }
    }

    private void endFunction() {
        Activation done = run.remove(run.size() - 1);
        boolean gives = fns.get(done.fn).gives == 1;
        if (done.stack.size() != fns.get(done.fn).gives) {
            throw new IllegalStateException("a checked function left more than it gives");
        }
        if (run.isEmpty()) {
            result = gives ? done.stack.peek() : PluginRunner.NONE;
            ended++;
            endRun();
        } else if (gives) {
            top().stack.push(done.stack.peek());
        }
    }

    private int values() {
        return run.stream().mapToInt(activation -> activation.stack.size()).sum();
    }

    private int push(int value) {
        if (values() == 40) {
            return PluginRunner.STACK;
        }
        top().stack.push(value);
        return 0;
    }

    private int execute() {
        Activation now = top();
        int at = now.next++;
        int op = fns.get(now.fn).op(at);
        int argument = fns.get(now.fn).code.get(at)[1];
        Deque<Integer> stack = now.stack;
        if (in(op, Kit.ADD, Kit.EQUAL)) {
            int y = stack.pop();
            int x = stack.pop();
            long exact = op == Kit.ADD ? (long) x + y : op == Kit.SUB ? (long) x - y : op == Kit.MUL ? (long) x * y
                    : op == Kit.LESS ? (x < y ? 1 : 0) : op == Kit.EQUAL ? (x == y ? 1 : 0) : y == 0 ? 1L << 40 : (long) x / y;
            return op == Kit.DIV && !in(exact, Integer.MIN_VALUE, Integer.MAX_VALUE) ? PluginRunner.ARITHMETIC : push((int) exact);
        }
        if (op == Kit.CONST) {
            return push(argument);
        } else if (op == Kit.GET) {
            return push(now.locals[argument]);
        } else if (op == Kit.SET) {
            now.locals[argument] = stack.pop();
        } else if (op == Kit.DROP) {
            stack.pop();
        } else if (op == Kit.LOAD || op == Kit.STORE) {
            int value = op == Kit.STORE ? stack.pop() : 0;
            long cell = (long) stack.pop() + argument;
            if (!in(cell, 0, 31)) {
                return PluginRunner.MEMORY;
            }
            if (op == Kit.LOAD) {
                return push(cells[(int) cell]);
            }
            cells[(int) cell] = value;
        } else if (op == Kit.BRANCH || op == Kit.BRANCH_IF && stack.pop() != 0) {
            branch(now, at, argument);
        } else if (op == Kit.RETURN) {
            endFunction();
            return run.isEmpty() ? PluginRunner.ENDED : 0;
        } else if (op == Kit.CALL) {
            return call(argument);
        } else if (op == Kit.HOST) {
            if (!granted[argument]) {
                return PluginRunner.DENIED;
            }
            asked = stack.pop();
            waitsFor = argument;
            return PluginRunner.WAITING;
        }
        return 0;
    }

    private int call(int f) {
        if (run.size() == 6) {
            return PluginRunner.DEPTH;
        }
        int[] given = new int[2];
        for (int i = fns.get(f).takes - 1; i >= 0; i--) {
            given[i] = top().stack.pop();
        }
        activate(f, given);
        return 0;
    }

    /** One walk over the code: the parts open at the branch, and where each of them ends. */
    private void branch(Activation now, int at, int number) {
        Fn fn = fns.get(now.fn);
        List<Integer> open = new ArrayList<>();
        List<Integer> openHere = List.of();
        int[] close = new int[24];
        for (int i = 0; i < fn.code.size(); i++) {
            if (i == at) {
                openHere = new ArrayList<>(open);
            }
            if (fn.op(i) == Kit.BLOCK || fn.op(i) == Kit.LOOP) {
                open.add(i);
            } else if (fn.op(i) == Kit.END) {
                close[open.remove(open.size() - 1)] = i;
            }
        }
        if (number == openHere.size()) {
            now.next = fn.code.size();
            return;
        }
        int opening = openHere.get(openHere.size() - 1 - number);
        now.next = 1 + (fn.op(opening) == Kit.LOOP ? opening : close[opening]);
    }

    int reply(int value) {
        if (waitsFor == null) {
            return PluginRunner.STATE;
        }
        waitsFor = null;
        asked = null;
        if (push(value) != 0) {
            throw new IllegalStateException("no place for an answer");
        }
        return PluginRunner.DONE;
    }

    int grant(int h, boolean on) {
        if (!in(h, 0, 3)) {
            return PluginRunner.REFUSED;
        }
        granted[h] = on;
        return PluginRunner.DONE;
    }

    long result() {
        return result;
    }

    long memory(int i) {
        return in(i, 0, 31) ? cells[i] : PluginRunner.NONE;
    }

    int poke(int i, int value) {
        if (!in(i, 0, 31)) {
            return PluginRunner.REFUSED;
        }
        cells[i] = value;
        return PluginRunner.DONE;
    }

    int state(int what) {
        if (!in(what, 0, 5) || run.isEmpty()) {
            return -1;
        }
        int[] answers = {run.size(), top().fn, top().next, values(), waitsFor == null ? -1 : waitsFor, asked == null ? 0 : asked};
        return answers[what];
    }

    int count(int what) {
        if (in(what, 1, 4)) {
            return what <= fns.size() ? fns.get(what - 1).code.size() : 0;
        }
        return what == 0 ? fns.size() : what == 5 ? fuelUsed : what == 6 ? (checked ? 1 : 0) : what == 7 ? ended
                : what == 8 ? trapped : PluginRunner.REFUSED;
    }

    // What the maker of random code asks: the height and the open parts behind the code so far.

    int gives(int f) {
        return fns.get(f).gives;
    }

    int localsOf(int f) {
        return fns.get(f).takes + fns.get(f).locals;
    }

    /** The bases of the function and its open parts, then the height; null if the code is faulty so far. */
    int[] heights(int f) {
        Fn fn = fns.get(f);
        int before = fault;
        int at = checkOne(fn);
        boolean faulty = at < fn.code.size();
        fault = before;
        if (faulty) {
            return null;
        }
        List<Integer> found = new ArrayList<>(List.of(0));
        int height = 0;
        for (int[] instruction : fn.code) {
            height += puts(instruction[0], instruction[1]) - takes(instruction[0], instruction[1]);
            if (instruction[0] == Kit.BLOCK || instruction[0] == Kit.LOOP) {
                found.add(height);
            } else if (instruction[0] == Kit.END) {
                height = found.remove(found.size() - 1);
            }
        }
        found.add(height);
        return found.stream().mapToInt(Integer::intValue).toArray();
    }
}
