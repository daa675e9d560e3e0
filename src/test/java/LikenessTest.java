import java.util.Arrays;
import java.util.Random;

/**
 * Runs of up to 512 calls on new objects, drawn from written seeds: each answer is compared with the
 * model's. Most code is made so that it passes the check; some calls and instructions are any.
 */
public final class LikenessTest {
    private static final int OBJECTS = 6000;
    private static final int CALLS = 512;
    private static final int[] ODD = {0, 1, -1, 2, 3, 5, 31, 32, 200, 201, Integer.MIN_VALUE, Integer.MAX_VALUE};
    private static final int[] OUTCOMES = {PluginRunner.ENDED, PluginRunner.NO_FUEL, PluginRunner.WAITING,
        PluginRunner.ARITHMETIC, PluginRunner.MEMORY, PluginRunner.DEPTH, PluginRunner.STACK, PluginRunner.DENIED};

    private final Kit kit;
    private final int[] outcomes = new int[15];
    private final int[] faults = new int[6];
    private Random random;
    private PluginRunner x;
    private Model model;
    private int calls;

    private LikenessTest(Kit kit) {
        this.kit = kit;
    }

    public static void main(String[] args) {
        Kit kit = new Kit("LikenessTest");
        LikenessTest test = new LikenessTest(kit);
        for (int seed = 1; seed <= OBJECTS; seed++) {
            test.oneObject(seed);
        }
        for (int outcome : OUTCOMES) {
            kit.holds("outcome " + outcome + " was seen often", test.outcomes[outcome] > 100);
        }
        for (int sort = 1; sort <= 5; sort++) {
            kit.holds("fault " + sort + " was seen often", test.faults[sort] > 100);
        }
        System.out.println("outcomes: " + Arrays.toString(test.outcomes) + ", faults: " + Arrays.toString(test.faults));
        kit.close();
    }

    private void oneObject(int seed) {
        random = new Random(seed);
        x = new PluginRunner();
        model = new Model();
        calls = 0;
        while (calls < CALLS) {
            int draw = random.nextInt(100);
            if (draw < 2) {
                anyCall();
            } else if (model.count(0) == 0 || draw < 3) {
                newFunctions();
            } else if (draw < 6) {
                newCode(random.nextInt(model.count(0)));
            } else if (model.count(6) == 0) {
                checkAndMend();
            } else {
                useRun();
            }
        }
    }

    private void due(String call, long got, long want) {
        calls++;
        kit.due(call, got, want);
    }

    private int any() {
        return random.nextInt(4) == 0 ? random.nextInt() : ODD[random.nextInt(ODD.length)];
    }

    private int near(int most) {
        return random.nextInt(most + 3) - 1;
    }

    private void newFunctions() {
        for (int i = random.nextInt(4); i >= 0; i--) {
            function(random.nextInt(3), random.nextInt(2), random.nextInt(4));
        }
        if (model.count(0) == 0) {
            function(0, 1, 1);
        }
        for (int f = 0; f < model.count(0); f++) {
            newCode(f);
        }
    }

    private void function(int takes, int gives, int locals) {
        due("function(" + takes + ", " + gives + ", " + locals + ")", x.function(takes, gives, locals),
                model.function(takes, gives, locals));
    }

    private void emit(int f, int op, int argument) {
        due("emit(" + f + ", " + op + ", " + argument + ")", x.emit(f, op, argument), model.emit(f, op, argument));
    }

    private void erase(int f) {
        due("erase(" + f + ")", x.erase(f), model.erase(f));
    }

    /** Code that passes the check, but for an instruction of any sort once in a while. */
    private void newCode(int f) {
        erase(f);
        if (random.nextInt(4) == 0) {
            pile(f);
        }
        int size = random.nextInt(16);
        for (int i = 0; i < size; i++) {
            int[] heights = model.heights(f);
            if (heights == null || random.nextInt(150) == 0) {
                emit(f, random.nextInt(20), any());
            } else if (!oneFitting(f, heights)) {
                emit(f, random.nextBoolean() ? Kit.CONST : Kit.BLOCK, random.nextInt(40) - 4);
            }
        }
        closeCode(f);
    }

    /** Values below a call, so that the stacks of all functions grow full. */
    private void pile(int f) {
        for (int i = 4 + random.nextInt(9); i > 0; i--) {
            boolean local = model.localsOf(f) > 0 && random.nextBoolean();
            emit(f, local ? Kit.GET : Kit.CONST, 0);
        }
        emit(f, Kit.CALL, random.nextInt(model.count(0)));
    }

    /** Draws an op; false if it would not fit here. */
    private boolean oneFitting(int f, int[] heights) {
        int open = heights.length - 2;
        int height = heights[open + 1];
        int free = height - heights[open];
        int locals = model.localsOf(f);
        int op = random.nextInt(20);
        if (op == Kit.BRANCH || op == Kit.RETURN) {
            return random.nextInt(3) == 0 && leave(f, op, heights);
        }
        if (op == Kit.BRANCH_IF) {
            int to = random.nextInt(open + 1);
            int wanted = to == open ? model.gives(f) : heights[open - to];
            if (free < 1 || height - 1 != wanted) {
                return false;
            }
            emit(f, op, to);
            return true;
        }
        if (op == Kit.END) {
            if (open == 0 || free != 0) {
                return false;
            }
            emit(f, op, any());
            return true;
        }
        if (op == Kit.CALL) {
            emit(f, op, random.nextInt(model.count(0)));
            return true;
        }
        int least = op == Kit.SET || op == Kit.DROP || op == Kit.LOAD || op == Kit.HOST ? 1
                : op >= Kit.ADD && op <= Kit.EQUAL || op == Kit.STORE ? 2 : 0;
        if (free < least || ((op == Kit.GET || op == Kit.SET) && locals == 0)) {
            return false;
        }
        emit(f, op, argument(op, locals));
        return true;
    }

    private int argument(int op, int locals) {
        switch (op) {
            case Kit.GET:
            case Kit.SET: return random.nextInt(locals);
            case Kit.HOST: return random.nextInt(4);
            case Kit.LOAD:
            case Kit.STORE: return random.nextInt(32);
            case Kit.CONST: return random.nextInt(3) == 0 ? any() : random.nextInt(5) - 1;
            default: return any();
        }
    }

    private boolean leave(int f, int op, int[] heights) {
        int open = heights.length - 2;
        int to = random.nextInt(open + 1);
        int wanted = op == Kit.RETURN || to == open ? model.gives(f) : heights[open - to];
        if (heights[open + 1] != wanted) {
            return false;
        }
        emit(f, op, to);
        if (open > 0) {
            emit(f, Kit.END, any());
        }
        return true;
    }

    /** Closes the parts and brings the height to what the function gives. */
    private void closeCode(int f) {
        for (int i = 0; i < 24; i++) {
            int[] heights = model.heights(f);
            if (heights == null) {
                return;
            }
            int open = heights.length - 2;
            int height = heights[open + 1];
            int wanted = open > 0 ? heights[open] : model.gives(f);
            if (height > wanted) {
                boolean two = height > wanted + 1;
                emit(f, two ? (random.nextBoolean() ? Kit.STORE : Kit.ADD) : Kit.DROP, random.nextInt(32));
            } else if (open > 0) {
                emit(f, Kit.END, 0);
            } else if (height < wanted) {
                emit(f, Kit.CONST, any());
            } else {
                return;
            }
        }
    }

    private void checkAndMend() {
        int want = model.check();
        due("check()", x.check(), want);
        due("fault()", x.fault(), model.fault());
        faults[model.fault()]++;
        if (want < 0) {
            newCode((-1000 - want) / 100);
        }
    }

    private void useRun() {
        int draw = random.nextInt(20);
        if (model.state(0) == -1 && draw < 12) {
            start(random.nextInt(model.count(0)));
        } else if (model.state(4) != -1 && draw < 12) {
            int value = any();
            due("reply(" + value + ")", x.reply(value), model.reply(value));
        } else if (draw < 15) {
            int fuel = random.nextInt(3) == 0 ? 1 + random.nextInt(200) : 1 + random.nextInt(12);
            resume(fuel);
        } else if (draw == 15) {
            start(near(model.count(0)));
        } else if (draw == 16) {
            int h = near(4);
            boolean on = random.nextInt(3) > 0;
            due("grant(" + h + ", " + on + ")", x.grant(h, on), model.grant(h, on));
        } else if (draw == 17) {
            int i = near(31);
            int value = any();
            due("poke(" + i + ", " + value + ")", x.poke(i, value), model.poke(i, value));
        } else {
            ask();
        }
    }

    private void start(int f) {
        int a = any();
        int b = any();
        due("start(" + f + ", " + a + ", " + b + ")", x.start(f, a, b), model.start(f, a, b));
    }

    private void resume(int fuel) {
        int want = model.resume(fuel);
        due("resume(" + fuel + ")", x.resume(fuel), want);
        if (want > 0) {
            outcomes[want]++;
        }
        for (int what = 0; what <= 5; what++) {
            due("state(" + what + ")", x.state(what), model.state(what));
        }
        due("result()", x.result(), model.result());
    }

    private void ask() {
        int what = near(9);
        due("state(" + what + ")", x.state(what), model.state(what));
        due("count(" + what + ")", x.count(what), model.count(what));
        due("result()", x.result(), model.result());
        int i = near(31);
        due("memory(" + i + ")", x.memory(i), model.memory(i));
    }

    /** A call with any arguments, in whatever state. */
    private void anyCall() {
        int a = any();
        int b = any();
        int c = any();
        switch (random.nextInt(14)) {
            case 0: function(a, b, c); break;
            case 1: emit(a, b, c); break;
            case 2: erase(a); break;
            case 3: due("check()", x.check(), model.check()); break;
            case 4: due("fault()", x.fault(), model.fault()); break;
            case 5: due("start(" + a + ", " + b + ", " + c + ")", x.start(a, b, c), model.start(a, b, c)); break;
            case 6: resume(a); break;
            case 7: due("reply(" + a + ")", x.reply(a), model.reply(a)); break;
            case 8: due("grant(" + a + ", on)", x.grant(a, b > 0), model.grant(a, b > 0)); break;
            case 9: due("result()", x.result(), model.result()); break;
            case 10: due("memory(" + a + ")", x.memory(a), model.memory(a)); break;
            case 11: due("poke(" + a + ", " + b + ")", x.poke(a, b), model.poke(a, b)); break;
            case 12: due("state(" + a + ")", x.state(a), model.state(a)); break;
            default: due("count(" + a + ")", x.count(a), model.count(a)); break;
        }
    }
}
