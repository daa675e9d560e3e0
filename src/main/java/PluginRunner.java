/**
 * A host of small programs: functions of instructions on a stack are written down, checked before
 * they may run, and run with a limit of fuel, a small memory, and calls to the host that are
 * answered from outside.
 */
public final class PluginRunner {
    public static final int DONE = 0;
    public static final int REFUSED = -1;
    public static final int FULL = -2;
    public static final int STATE = -3;
    public static final int ENDED = 1;
    public static final int NO_FUEL = 2;
    public static final int WAITING = 3;
    public static final int ARITHMETIC = 10;
    public static final int MEMORY = 11;
    public static final int DEPTH = 12;
    public static final int STACK = 13;
    public static final int DENIED = 14;
    public static final long NONE = -1000000000000L;

    private static final int MOST_FUNCTIONS = 4;
    private static final int MOST_TAKEN = 2;
    private static final int MOST_GIVEN = 1;
    private static final int MOST_LOCALS = 3;
    private static final int MOST_INSTRUCTIONS = 24;
    private static final int CELLS = 32;
    private static final int HOSTS = 4;
    private static final int MOST_UNDER_WAY = 6;
    private static final int MOST_VALUES = 40;
    private static final int MOST_FUEL = 200;
    private static final int FAULT_BASE = -1000;
    private static final int FAULT_STEP = 100;
    private static final int NO_RUN = -1;
    private static final int NO_HOST = -1;

    private final Program program;
    private final Checker checker;
    private final Machine machine;
    private boolean checked;

    public PluginRunner() {
        program = new Program();
        checker = new Checker(program);
        machine = new Machine(program);
        checked = false;
    }

    public int function(int takes, int gives, int locals) {
        if (!within(takes, MOST_TAKEN) || !within(gives, MOST_GIVEN) || !within(locals, MOST_LOCALS)) {
            return REFUSED;
        }
        if (program.size == MOST_FUNCTIONS) {
            return FULL;
        }
        forgetCheckAndRun();
        return program.add(takes, gives, locals);
    }

    public int emit(int f, int op, int argument) {
        if (!program.has(f) || !within(op, Op.LAST)) {
            return REFUSED;
        }
        Function written = program.functions[f];
        if (written.length == MOST_INSTRUCTIONS) {
            return FULL;
        }
        forgetCheckAndRun();
        return written.add(op, argument);
    }

    public int erase(int f) {
        if (!program.has(f)) {
            return REFUSED;
        }
        forgetCheckAndRun();
        program.functions[f].length = 0;
        return DONE;
    }

    public int check() {
        if (program.size == 0) {
            return STATE;
        }
        checker.goThroughAll();
        checked = checker.sort == Fault.NO_FAULT;
        if (checked) {
            return DONE;
        }
        return FAULT_BASE - FAULT_STEP * checker.faultyFunction - checker.faultyInstruction;
    }

    public int fault() {
        return checker.sort;
    }

    public int start(int f, int a, int b) {
        if (!checked) {
            return STATE;
        }
        if (!program.has(f)) {
            return REFUSED;
        }
        machine.begin(f, a, b);
        return DONE;
    }

    public int resume(int fuel) {
        if (fuel < 1 || fuel > MOST_FUEL) {
            return REFUSED;
        }
        if (!machine.isUnderWay() || machine.isWaiting()) {
            return STATE;
        }
        return machine.go(fuel);
    }

    public int reply(int value) {
        if (!machine.isWaiting()) {
            return STATE;
        }
        machine.takeAnswer(value);
        return DONE;
    }

    public int grant(int h, boolean on) {
        if (!within(h, HOSTS - 1)) {
            return REFUSED;
        }
        machine.granted[h] = on;
        return DONE;
    }

    public long result() {
        return machine.latestResult;
    }

    public long memory(int i) {
        return within(i, CELLS - 1) ? machine.cells[i] : NONE;
    }

    public int poke(int i, int value) {
        if (!within(i, CELLS - 1)) {
            return REFUSED;
        }
        machine.cells[i] = value;
        return DONE;
    }

    public int state(int what) {
        if (!within(what, 5)) {
            return REFUSED;
        }
        if (!machine.isUnderWay()) {
            return NO_RUN;
        }
        switch (what) {
            case 0: return machine.depth;
            case 1: return machine.innermost().number;
            case 2: return machine.innermost().next;
            case 3: return machine.values;
            case 4: return machine.waitsFor;
            default: return machine.asked;
        }
    }

    public int count(int what) {
        switch (what) {
            case 0: return program.size;
            case 1:
            case 2:
            case 3:
            case 4: return program.has(what - 1) ? program.functions[what - 1].length : 0;
            case 5: return machine.fuelUsed;
            case 6: return checked ? 1 : 0;
            case 7: return machine.runsEnded;
            case 8: return machine.runsTrapped;
            default: return REFUSED;
        }
    }

    /** Code that was changed must not run before it is checked anew. */
    private void forgetCheckAndRun() {
        checked = false;
        machine.dropRun();
    }

    private static boolean within(int number, int last) {
        return number >= 0 && number <= last;
    }

    /** The ops by their numbers, with how many values each takes and puts. */
    private static final class Op {
        static final int CONST = 0;
        static final int GET = 1;
        static final int SET = 2;
        static final int ADD = 3;
        static final int SUB = 4;
        static final int MUL = 5;
        static final int DIV = 6;
        static final int LESS = 7;
        static final int EQUAL = 8;
        static final int DROP = 9;
        static final int LOAD = 10;
        static final int STORE = 11;
        static final int BLOCK = 12;
        static final int LOOP = 13;
        static final int END = 14;
        static final int BRANCH = 15;
        static final int BRANCH_IF = 16;
        static final int CALL = 17;
        static final int HOST = 18;
        static final int RETURN = 19;
        static final int LAST = 19;

        // CALL stands here with 0: what it takes and puts is told by the function that it calls.
        private static final int[] TAKES = {0, 0, 1, 2, 2, 2, 2, 2, 2, 1, 1, 2, 0, 0, 0, 0, 1, 0, 1, 0};
        private static final int[] PUTS = {1, 1, 0, 1, 1, 1, 1, 1, 1, 0, 1, 0, 0, 0, 0, 0, 0, 0, 1, 0};

        static boolean opensPart(int op) {
            return op == BLOCK || op == LOOP;
        }

        /** Whether the instruction behind this op is never come to from it. */
        static boolean neverGoesOn(int op) {
            return op == BRANCH || op == RETURN;
        }
    }

    /** The sorts of faults that the check finds. */
    private static final class Fault {
        static final int NO_FAULT = 0;
        static final int ARGUMENT = 1;
        static final int TOO_FEW = 2;
        static final int PART = 3;
        static final int HEIGHT = 4;
        static final int NEVER_COME_TO = 5;
    }

    /** One function: what it takes, gives and keeps, and its code. */
    private static final class Function {
        final int[] ops = new int[MOST_INSTRUCTIONS];
        final int[] arguments = new int[MOST_INSTRUCTIONS];
        int length = 0;
        int takes = 0;
        int gives = 0;
        int locals = 0;

        int add(int op, int argument) {
            int number = length;
            ops[number] = op;
            arguments[number] = argument;
            length = number + 1;
            return number;
        }

        /** Where a branch at an instruction goes to; the code's length is the function's end. */
        int target(int at, int part) {
            int opening = openingOf(at, part);
            if (opening < 0) {
                return length;
            }
            return ops[opening] == Op.LOOP ? opening + 1 : behindEndOf(opening);
        }

        /** The instruction that opened a part which is open at an instruction; -1: the function. */
        private int openingOf(int at, int part) {
            int closed = 0;
            int outwards = part;
            for (int i = at - 1; i >= 0; i--) {
                if (ops[i] == Op.END) {
                    closed++;
                } else if (Op.opensPart(ops[i])) {
                    if (closed > 0) {
                        closed--;
                    } else if (outwards > 0) {
                        outwards--;
                    } else {
                        return i;
                    }
                }
            }
            return -1;
        }

        private int behindEndOf(int opening) {
            int inner = 0;
            for (int i = opening + 1; i < length; i++) {
                if (Op.opensPart(ops[i])) {
                    inner++;
                } else if (ops[i] == Op.END) {
                    if (inner == 0) {
                        return i + 1;
                    }
                    inner--;
                }
            }
            return length;
        }
    }

    /** The functions that are written down. */
    private static final class Program {
        final Function[] functions = new Function[MOST_FUNCTIONS];
        int size = 0;

        Program() {
            for (int f = 0; f < MOST_FUNCTIONS; f++) {
                functions[f] = new Function();
            }
        }

        boolean has(int f) {
            return f >= 0 && f < size;
        }

        int add(int takes, int gives, int locals) {
            int number = size;
            functions[number].takes = takes;
            functions[number].gives = gives;
            functions[number].locals = locals;
            size = number + 1;
            return number;
        }

        int taken(int op, int argument) {
            return op == Op.CALL ? functions[argument].takes : Op.TAKES[op];
        }

        int put(int op, int argument) {
            return op == Op.CALL ? functions[argument].gives : Op.PUTS[op];
        }
    }

    /** The check: goes through the code with the height that the stack will have there. */
    private static final class Checker {
        private final Program program;
        // The function's own base, always 0, and above it that of each open part.
        private final int[] bases = new int[MOST_INSTRUCTIONS + 1];
        private int open = 0;
        private int height = 0;
        private boolean behindLeaving = false;
        int sort = Fault.NO_FAULT;
        int faultyFunction = 0;
        int faultyInstruction = 0;

        Checker(Program program) {
            this.program = program;
        }

        void goThroughAll() {
            sort = Fault.NO_FAULT;
            for (int f = 0; f < program.size && sort == Fault.NO_FAULT; f++) {
                faultyFunction = f;
                goThrough(program.functions[f]);
            }
        }

        private void goThrough(Function function) {
            open = 0;
            height = 0;
            behindLeaving = false;
            for (int at = 0; at < function.length; at++) {
                int op = function.ops[at];
                int argument = function.arguments[at];
                faultyInstruction = at;
                sort = sortOf(function, op, argument);
                if (sort != Fault.NO_FAULT) {
                    return;
                }
                pass(op, argument);
            }
            faultyInstruction = function.length;
            sort = sortOfTheEnd(function);
        }

        private int sortOf(Function function, int op, int argument) {
            if (behindLeaving && op != Op.END) {
                return Fault.NEVER_COME_TO;
            }
            if (!isArgument(function, op, argument)) {
                return Fault.ARGUMENT;
            }
            int taken = program.taken(op, argument);
            if (taken > height - bases[open]) {
                return Fault.TOO_FEW;
            }
            if (op == Op.END && !closesWell()) {
                return Fault.PART;
            }
            if (!leavesWell(function, op, argument, height - taken)) {
                return Fault.HEIGHT;
            }
            return Fault.NO_FAULT;
        }

        private int sortOfTheEnd(Function function) {
            if (open > 0) {
                return Fault.PART;
            }
            if (!behindLeaving && height != function.gives) {
                return Fault.HEIGHT;
            }
            return Fault.NO_FAULT;
        }

        private boolean isArgument(Function function, int op, int argument) {
            switch (op) {
                case Op.GET:
                case Op.SET: return within(argument, function.takes + function.locals - 1);
                case Op.BRANCH:
                case Op.BRANCH_IF: return within(argument, open);
                case Op.CALL: return program.has(argument);
                case Op.HOST: return within(argument, HOSTS - 1);
                case Op.LOAD:
                case Op.STORE: return within(argument, CELLS - 1);
                default: return true;
            }
        }

        private boolean closesWell() {
            return open > 0 && (behindLeaving || height == bases[open]);
        }

        /** Whether a branch or return finds the height that is due where it goes. */
        private boolean leavesWell(Function function, int op, int argument, int left) {
            switch (op) {
                case Op.BRANCH:
                case Op.BRANCH_IF: return left == (argument < open ? bases[open - argument] : function.gives);
                case Op.RETURN: return left == function.gives;
                default: return true;
            }
        }

        private void pass(int op, int argument) {
            height += program.put(op, argument) - program.taken(op, argument);
            behindLeaving = Op.neverGoesOn(op);
            if (Op.opensPart(op)) {
                open++;
                bases[open] = height;
            } else if (op == Op.END) {
                height = bases[open];
                open--;
            }
        }
    }

    /** A function under way. */
    private static final class Frame {
        final int[] locals = new int[MOST_TAKEN + MOST_LOCALS];
        int number = 0;
        int next = 0;

        void begin(int function) {
            number = function;
            next = 0;
            for (int i = 0; i < locals.length; i++) {
                locals[i] = 0;
            }
        }
    }

    /**
     * The memory, the grants and the run under way. It runs checked code alone, so an argument is
     * always one that the op can have, and a value is taken only where one was put.
     */
    private static final class Machine {
        private static final int GOES_ON = 0;

        private final Program program;
        private final Frame[] frames = new Frame[MOST_UNDER_WAY];
        // One row for the stacks of all functions under way, an inner one's above its caller's.
        private final int[] stack = new int[MOST_VALUES];
        final int[] cells = new int[CELLS];
        final boolean[] granted = new boolean[HOSTS];
        int depth = 0;
        int values = 0;
        int waitsFor = NO_HOST;
        int asked = 0;
        int fuelUsed = 0;
        int runsEnded = 0;
        int runsTrapped = 0;
        long latestResult = NONE;

        Machine(Program program) {
            this.program = program;
            for (int i = 0; i < MOST_UNDER_WAY; i++) {
                frames[i] = new Frame();
            }
        }

        boolean isUnderWay() {
            return depth > 0;
        }

        boolean isWaiting() {
            return waitsFor != NO_HOST;
        }

        Frame innermost() {
            return frames[depth - 1];
        }

        void dropRun() {
            depth = 0;
            values = 0;
            stopWaiting();
        }

        void begin(int function, int a, int b) {
            dropRun();
            Frame frame = enter(function);
            int takes = program.functions[function].takes;
            if (takes > 0) {
                frame.locals[0] = a;
            }
            if (takes > 1) {
                frame.locals[1] = b;
            }
        }

        void takeAnswer(int value) {
            stopWaiting();
            // The value asked with left a place, so this can't be the value too many.
            put(value);
        }

        int go(int fuel) {
            for (int left = fuel; left > 0; left--) {
                leaveFinished();
                if (!isUnderWay()) {
                    return ENDED;
                }
                fuelUsed++;
                int outcome = step();
                if (outcome == WAITING) {
                    return WAITING;
                }
                if (outcome != GOES_ON) {
                    endTrapped();
                    return outcome;
                }
            }
            leaveFinished();
            return isUnderWay() ? NO_FUEL : ENDED;
        }

        /**
         * Ends every function that has no instruction left. The check lets a function end only with
         * just what it gives on its stack, so the value lies already where the caller looks for it.
         */
        private void leaveFinished() {
            while (depth > 0 && innermost().next >= program.functions[innermost().number].length) {
                if (depth == 1) {
                    keepResult(program.functions[innermost().number]);
                }
                depth--;
            }
        }

        private void keepResult(Function outermost) {
            latestResult = outermost.gives > 0 ? stack[0] : NONE;
            values = 0;
            runsEnded++;
        }

        private void endTrapped() {
            runsTrapped++;
            dropRun();
        }

        /** Does the next instruction; answers GOES_ON, WAITING or the trap that it fell into. */
        private int step() {
            Frame frame = innermost();
            Function function = program.functions[frame.number];
            int at = frame.next;
            int argument = function.arguments[at];
            frame.next = at + 1;
            switch (function.ops[at]) {
                case Op.CONST: return put(argument);
                case Op.GET: return put(frame.locals[argument]);
                case Op.SET:
                    frame.locals[argument] = take();
                    return GOES_ON;
                case Op.DROP:
                    take();
                    return GOES_ON;
                case Op.LOAD: return load(argument);
                case Op.STORE: return store(argument);
                case Op.BLOCK:
                case Op.LOOP:
                case Op.END: return GOES_ON;
                case Op.BRANCH:
                    frame.next = function.target(at, argument);
                    return GOES_ON;
                case Op.BRANCH_IF:
                    if (take() != 0) {
                        frame.next = function.target(at, argument);
                    }
                    return GOES_ON;
                case Op.CALL: return call(argument);
                case Op.HOST: return ask(argument);
                case Op.RETURN:
                    frame.next = function.length;
                    return GOES_ON;
                default: return calculate(function.ops[at]);
            }
        }

        private int calculate(int op) {
            int y = take();
            int x = take();
            switch (op) {
                case Op.ADD: return put(x + y);
                case Op.SUB: return put(x - y);
                case Op.MUL: return put(x * y);
                case Op.LESS: return put(x < y ? 1 : 0);
                case Op.EQUAL: return put(x == y ? 1 : 0);
                case Op.DIV:
                default: return divide(x, y);
            }
        }

        private int divide(int x, int y) {
            if (y == 0) {
                return ARITHMETIC;
            }
            long quotient = (long) x / y;
            if (quotient != (int) quotient) {
                return ARITHMETIC;
            }
            return put((int) quotient);
        }

        private int load(int offset) {
            long cell = (long) take() + offset;
            if (!isCell(cell)) {
                return MEMORY;
            }
            return put(cells[(int) cell]);
        }

        private int store(int offset) {
            int value = take();
            long cell = (long) take() + offset;
            if (!isCell(cell)) {
                return MEMORY;
            }
            cells[(int) cell] = value;
            return GOES_ON;
        }

        private static boolean isCell(long cell) {
            return cell >= 0 && cell < CELLS;
        }

        private int call(int function) {
            if (depth == MOST_UNDER_WAY) {
                return DEPTH;
            }
            Frame frame = enter(function);
            for (int i = program.functions[function].takes - 1; i >= 0; i--) {
                frame.locals[i] = take();
            }
            return GOES_ON;
        }

        private int ask(int host) {
            if (!granted[host]) {
                return DENIED;
            }
            asked = take();
            waitsFor = host;
            return WAITING;
        }

        private Frame enter(int function) {
            Frame frame = frames[depth];
            frame.begin(function);
            depth++;
            return frame;
        }

        private int put(int value) {
            if (values == MOST_VALUES) {
                return STACK;
            }
            stack[values] = value;
            values++;
            return GOES_ON;
        }

        private int take() {
            values--;
            return stack[values];
        }

        private void stopWaiting() {
            waitsFor = NO_HOST;
            asked = 0;
        }
    }
}
