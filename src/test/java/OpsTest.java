/** The ops as they run: what each puts, where branches go, what a call hands over, and every trap. */
public final class OpsTest {
    private static final Kit KIT = new Kit("OpsTest");
    private static final int LEAST = Integer.MIN_VALUE;
    private static final int MOST = Integer.MAX_VALUE;

    public static void main(String[] args) {
        calculations();
        division();
        locals();
        cells();
        branches();
        nestedBranches();
        loops();
        calls();
        returns();
        depth();
        stackOfOneFunction();
        stackOfAllFunctions();
        KIT.close();
    }

    /** Runs a function of two ints that gives one, with 1 more local, and asks for outcome and result. */
    private static void gives(String what, long want, int a, int b, int... code) {
        PluginRunner x = KIT.started(2, 1, 1, a, b, code);
        KIT.due(what + ": resume(200)", x.resume(200), PluginRunner.ENDED);
        KIT.due(what + ": result()", x.result(), want);
    }

    private static void traps(String what, int trap, int a, int b, int... code) {
        PluginRunner x = KIT.started(2, 1, 1, a, b, code);
        KIT.due(what + ": resume(200)", x.resume(200), trap);
        KIT.due(what + ": state(0)", x.state(0), -1);
        KIT.due(what + ": resume again", x.resume(200), PluginRunner.STATE);
        KIT.due(what + ": runs trapped", x.count(8), 1);
        KIT.due(what + ": runs ended", x.count(7), 0);
        KIT.due(what + ": result()", x.result(), PluginRunner.NONE);
    }

    private static void calculate(String what, int op, long want, int a, int b) {
        gives(what, want, a, b, Kit.GET, 0, Kit.GET, 1, op, 0);
    }

    private static void calculations() {
        calculate("ADD", Kit.ADD, 5, 7, -2);
        calculate("ADD wraps", Kit.ADD, LEAST, MOST, 1);
        calculate("SUB", Kit.SUB, 9, 7, -2);
        calculate("SUB wraps", Kit.SUB, MOST, LEAST, 1);
        calculate("MUL", Kit.MUL, -14, 7, -2);
        calculate("MUL wraps", Kit.MUL, LEAST, LEAST, -1);
        calculate("LESS below", Kit.LESS, 1, -3, 2);
        calculate("LESS same", Kit.LESS, 0, 2, 2);
        calculate("LESS above", Kit.LESS, 0, 3, 2);
        calculate("LESS at the ends", Kit.LESS, 1, LEAST, MOST);
        calculate("LESS at the ends", Kit.LESS, 0, MOST, LEAST);
        calculate("EQUAL", Kit.EQUAL, 1, 1000, 1000);
        calculate("EQUAL not", Kit.EQUAL, 0, 1000, 1001);
        gives("CONST", LEAST, 0, 0, Kit.CONST, LEAST);
        gives("DROP", 4, 0, 0, Kit.CONST, 4, Kit.CONST, 5, Kit.DROP, 0);
    }

    private static void division() {
        calculate("DIV", Kit.DIV, 3, 7, 2);
        calculate("DIV towards zero", Kit.DIV, -3, -7, 2);
        calculate("DIV towards zero", Kit.DIV, -3, 7, -2);
        calculate("DIV", Kit.DIV, 3, -7, -2);
        calculate("DIV of the least", Kit.DIV, LEAST, LEAST, 1);
        calculate("DIV by -1", Kit.DIV, -MOST, MOST, -1);
        for (int x : new int[] {0, 7, LEAST}) {
            traps("DIV by 0", PluginRunner.ARITHMETIC, x, 0, Kit.GET, 0, Kit.GET, 1, Kit.DIV, 0);
        }
        traps("DIV that isn't an int", PluginRunner.ARITHMETIC, LEAST, -1, Kit.GET, 0, Kit.GET, 1, Kit.DIV, 0);
    }

    private static void locals() {
        gives("GET of the first taken", 8, 8, 9, Kit.GET, 0);
        gives("GET of the second taken", 9, 8, 9, Kit.GET, 1);
        gives("GET of a local", 0, 8, 9, Kit.GET, 2);
        gives("SET of a taken one", 5, 8, 9, Kit.CONST, 5, Kit.SET, 0, Kit.GET, 0);
        gives("SET of a local", 5, 8, 9, Kit.CONST, 5, Kit.SET, 2, Kit.GET, 2);
        PluginRunner x = KIT.started(1, 1, 3, 6, 7, Kit.GET, 1, Kit.CONST, 3, Kit.SET, 1, Kit.GET, 0, Kit.ADD, 0);
        KIT.due("resume(200)", x.resume(200), PluginRunner.ENDED);
        KIT.due("b isn't taken", x.result(), 6);
        x.start(0, 6, 7);
        KIT.due("resume(200)", x.resume(200), PluginRunner.ENDED);
        KIT.due("locals are 0 in each run", x.result(), 6);
    }

    private static void cells() {
        gives("LOAD and STORE", 77, 4, 77, Kit.GET, 0, Kit.GET, 1, Kit.STORE, 27, Kit.CONST, 31, Kit.LOAD, 0);
        gives("LOAD below with an argument", 0, -31, 0, Kit.GET, 0, Kit.LOAD, 31);
        for (int a : new int[] {-2, 31, LEAST, MOST}) {
            traps("LOAD at " + a, PluginRunner.MEMORY, a, 0, Kit.GET, 0, Kit.LOAD, 1);
            traps("STORE at " + a, PluginRunner.MEMORY, a, 5, Kit.GET, 0, Kit.GET, 1, Kit.STORE, 1, Kit.CONST, 1);
        }
        traps("LOAD is exact", PluginRunner.MEMORY, MOST, 0, Kit.GET, 0, Kit.LOAD, 31);
        PluginRunner x = KIT.started(2, 0, 0, 3, 11, Kit.GET, 0, Kit.GET, 1, Kit.STORE, 0, Kit.GET, 0, Kit.LOAD, 31,
                Kit.DROP, 0);
        KIT.due("resume(200)", x.resume(200), PluginRunner.MEMORY);
        KIT.due("the memory stays", x.memory(3), 11);
    }

    private static void branches() {
        gives("BRANCH goes behind the END", 1, 0, 0, Kit.CONST, 1, Kit.SET, 2, Kit.BLOCK, 0, Kit.BRANCH, 0, Kit.END, 0,
                Kit.GET, 2);
        int[] pick = {Kit.BLOCK, 0, Kit.GET, 0, Kit.BRANCH_IF, 0, Kit.CONST, 3, Kit.RETURN, 0, Kit.END, 0, Kit.CONST, 4};
        gives("BRANCH IF of 0", 3, 0, 0, pick);
        gives("BRANCH IF of 1", 4, 1, 0, pick);
        gives("BRANCH IF of -1", 4, -1, 0, pick);
        gives("BRANCH IF of the least", 4, LEAST, 0, pick);
        int[] toTheEnd = {Kit.CONST, 3, Kit.GET, 0, Kit.BRANCH_IF, 0, Kit.DROP, 0, Kit.CONST, 4};
        gives("BRANCH IF to the function's end, not taken", 4, 0, 0, toTheEnd);
        gives("BRANCH IF to the function's end", 3, 1, 0, toTheEnd);
        gives("BRANCH to the function's end out of parts", 6, 0, 0, Kit.BLOCK, 0, Kit.LOOP, 0, Kit.CONST, 6, Kit.BRANCH, 2,
                Kit.END, 0, Kit.END, 0, Kit.CONST, 7);
    }

    /** Parts that were closed before, and parts inside, are not counted. */
    private static void nestedBranches() {
        int[] code = {Kit.BLOCK, 0, Kit.BLOCK, 0, Kit.END, 0, Kit.BLOCK, 0, Kit.LOOP, 0, Kit.END, 0,
            Kit.GET, 0, Kit.BRANCH_IF, 0, Kit.GET, 1, Kit.BRANCH_IF, 1, Kit.BLOCK, 0, Kit.END, 0, Kit.CONST, 10, Kit.RETURN, 0,
            Kit.END, 0, Kit.BLOCK, 0, Kit.END, 0, Kit.CONST, 20, Kit.RETURN, 0, Kit.END, 0, Kit.CONST, 30};
        gives("no branch", 10, 0, 0, code);
        gives("to the innermost", 20, 1, 0, code);
        gives("to the outer one", 30, 0, 1, code);
    }

    private static void loops() {
        // Counts a down to 0 and b up: the LOOP itself is begun once.
        int[] code = {Kit.LOOP, 0, Kit.GET, 1, Kit.CONST, 1, Kit.ADD, 0, Kit.SET, 1, Kit.GET, 0, Kit.CONST, 1, Kit.SUB, 0,
            Kit.SET, 0, Kit.GET, 0, Kit.BRANCH_IF, 0, Kit.END, 0, Kit.GET, 1};
        PluginRunner x = KIT.started(2, 1, 0, 3, 10, code);
        KIT.due("resume(200)", x.resume(200), PluginRunner.ENDED);
        KIT.due("result()", x.result(), 13);
        KIT.due("fuel of three rounds", x.count(5), 1 + 3 * 10 + 2);
        PluginRunner endless = KIT.started(0, 0, 0, 0, 0, Kit.LOOP, 0, Kit.BRANCH, 0, Kit.END, 0);
        for (int i = 1; i <= 5; i++) {
            KIT.due("resume(200) of an endless loop", endless.resume(200), PluginRunner.NO_FUEL);
            KIT.due("its fuel", endless.count(5), 200 * i);
            KIT.due("its next instruction", endless.state(2), 1);
        }
    }

    private static void calls() {
        PluginRunner x = new PluginRunner();
        x.function(2, 1, 1);
        x.function(2, 1, 0);
        x.function(1, 0, 0);
        Kit.write(x, 0, Kit.CONST, 100, Kit.GET, 0, Kit.GET, 1, Kit.CALL, 1, Kit.ADD, 0, Kit.CONST, 9, Kit.CALL, 2,
                Kit.GET, 2, Kit.ADD, 0);
        Kit.write(x, 1, Kit.GET, 0, Kit.GET, 1, Kit.SUB, 0, Kit.CONST, 55, Kit.SET, 0);
        Kit.write(x, 2, Kit.CONST, 1, Kit.GET, 0, Kit.STORE, 0);
        KIT.due("check()", x.check(), PluginRunner.DONE);
        x.start(0, 30, 4);
        KIT.due("resume(200)", x.resume(200), PluginRunner.ENDED);
        KIT.due("the last one is from the top", x.result(), 126);
        KIT.due("memory(1)", x.memory(1), 9);
        KIT.due("fuel", x.count(5), 9 + 5 + 3);
    }

    /** A callee's locals are 0 at first each time, also where another function's stood before. */
    private static void returns() {
        PluginRunner x = new PluginRunner();
        x.function(0, 1, 0);
        x.function(0, 1, 2);
        Kit.write(x, 0, Kit.CALL, 1, Kit.CALL, 1, Kit.ADD, 0);
        Kit.write(x, 1, Kit.GET, 1, Kit.CONST, 5, Kit.SET, 1, Kit.BLOCK, 0, Kit.RETURN, 0, Kit.END, 0, Kit.DROP, 0, Kit.CONST, 9);
        KIT.due("check()", x.check(), PluginRunner.DONE);
        x.start(0, 0, 0);
        KIT.due("resume(200)", x.resume(200), PluginRunner.ENDED);
        KIT.due("result()", x.result(), 0);
    }

    private static void depth() {
        // A function that calls itself as often as it is told.
        int[] code = {Kit.BLOCK, 0, Kit.GET, 0, Kit.CONST, 1, Kit.LESS, 0, Kit.BRANCH_IF, 0, Kit.GET, 0, Kit.CONST, 1,
            Kit.SUB, 0, Kit.CALL, 0, Kit.CONST, 1, Kit.ADD, 0, Kit.RETURN, 0, Kit.END, 0, Kit.CONST, 0};
        PluginRunner x = KIT.started(1, 1, 0, 5, 0, code);
        KIT.due("resume(200) with 6 under way", x.resume(200), PluginRunner.ENDED);
        KIT.due("result()", x.result(), 5);
        x.start(0, 6, 0);
        KIT.due("resume(200) with a seventh", x.resume(200), PluginRunner.DEPTH);
        KIT.due("runs trapped", x.count(8), 1);
        KIT.due("result() is that of the ended run", x.result(), 5);
        x.start(0, 5, 0);
        KIT.due("the next run is as the first", x.resume(200), PluginRunner.ENDED);
    }

    private static void stackOfOneFunction() {
        int[] code = new int[48];
        for (int i = 0; i < 48; i += 2) {
            code[i] = i < 24 ? Kit.CONST : Kit.DROP;
        }
        PluginRunner x = KIT.started(0, 0, 0, 0, 0, code);
        KIT.due("resume(12)", x.resume(12), PluginRunner.NO_FUEL);
        KIT.due("values", x.state(3), 12);
        KIT.due("resume(12)", x.resume(12), PluginRunner.ENDED);
    }

    private static void stackOfAllFunctions() {
        atTheTop("CONST where 39 are", 39, PluginRunner.ENDED, Kit.CONST, 0, Kit.DROP, 0);
        atTheTop("GET where 39 are", 39, PluginRunner.ENDED, Kit.GET, 0, Kit.DROP, 0);
        atTheTop("CONST where 40 are", 39, PluginRunner.STACK, Kit.CONST, 0, Kit.CONST, 0, Kit.DROP, 0, Kit.DROP, 0);
        atTheTop("GET where 40 are", 40, PluginRunner.STACK, Kit.GET, 0, Kit.DROP, 0);
        atTheTop("LOAD takes before it puts", 39, PluginRunner.ENDED, Kit.CONST, 0, Kit.LOAD, 0, Kit.DROP, 0);
        atTheTop("ADD takes before it puts", 38, PluginRunner.ENDED, Kit.CONST, 0, Kit.CONST, 0, Kit.ADD, 0, Kit.DROP, 0);
        atTheTop("SET where 40 are", 39, PluginRunner.ENDED, Kit.CONST, 0, Kit.SET, 0);
        valueOfAFunctionAtTheTop();
        answerAtTheTop();
    }

    /** Runs code in a fourth function, with so many values on the stacks of the three below it. */
    private static void atTheTop(String what, int below, int outcome, int... code) {
        PluginRunner x = pile(below, 0);
        Kit.write(x, 3, code);
        KIT.due(what + ": check()", x.check(), PluginRunner.DONE);
        x.start(0, 0, 0);
        KIT.due(what + ": resume(" + (below + 3) + ")", x.resume(below + 3), PluginRunner.NO_FUEL);
        KIT.due(what + ": functions", x.state(0), 4);
        KIT.due(what + ": values", x.state(3), below);
        KIT.due(what + ": resume(200)", x.resume(200), outcome);
    }

    /** Three functions, each with its share of the values, that call the one behind them. */
    private static PluginRunner pile(int below, int lastGives) {
        PluginRunner x = new PluginRunner();
        int[] shares = {14, 14, below - 28};
        for (int f = 0; f < 3; f++) {
            x.function(0, 0, 0);
            for (int i = 0; i < shares[f]; i++) {
                Kit.write(x, f, Kit.CONST, 0);
            }
            Kit.write(x, f, Kit.CALL, f + 1);
            int left = shares[f] + (f == 2 ? lastGives : 0);
            // STORE takes two at once: one instruction each would be more than a function may have.
            for (int i = 0; i < left / 2; i++) {
                Kit.write(x, f, Kit.STORE, 0);
            }
            if (left % 2 == 1) {
                Kit.write(x, f, Kit.DROP, 0);
            }
        }
        x.function(0, lastGives, 1);
        return x;
    }

    private static void valueOfAFunctionAtTheTop() {
        PluginRunner x = pile(39, 1);
        Kit.write(x, 3, Kit.CONST, 6);
        KIT.due("check()", x.check(), PluginRunner.DONE);
        x.start(0, 0, 0);
        KIT.due("resume up to the function's end", x.resume(39 + 3 + 1), PluginRunner.NO_FUEL);
        KIT.due("functions", x.state(0), 3);
        KIT.due("values", x.state(3), 40);
        KIT.due("resume(1)", x.resume(1), PluginRunner.NO_FUEL);
        KIT.due("the value given was stored", x.memory(0), 6);
        KIT.due("resume(200)", x.resume(200), PluginRunner.ENDED);
    }

    private static void answerAtTheTop() {
        PluginRunner x = pile(39, 0);
        Kit.write(x, 3, Kit.CONST, 6, Kit.HOST, 3, Kit.DROP, 0);
        KIT.due("check()", x.check(), PluginRunner.DONE);
        x.grant(3, true);
        x.start(0, 0, 0);
        KIT.due("resume(200)", x.resume(200), PluginRunner.WAITING);
        KIT.due("values while it waits", x.state(3), 39);
        KIT.due("reply(5)", x.reply(5), PluginRunner.DONE);
        KIT.due("values after the answer", x.state(3), 40);
        KIT.due("resume(200)", x.resume(200), PluginRunner.ENDED);
    }
}
