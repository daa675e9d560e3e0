/** The terms about RUNNING: memory, fuel, the limits of depth and stack, hosts, traps, and the constants. */
final class RunningEdges extends Edges {
    // Stores 9 in cell 3 before it does what comes behind.
    private static final String STORES = "CONST 3, CONST 9, STORE, ";
    // Calls itself as often as it is told, and gives that number.
    private static final String DEEPER = "1 1 0: BLOCK, GET 0, BRANCH_IF 0, CONST 0, RETURN, END, "
            + "GET 0, CONST 1, SUB, CALL 0, CONST 1, ADD";

    RunningEdges(Sentences sentences) {
        super(sentences);
    }

    @Override
    void all() {
        term("RUNNING: MEMORY cells 0 .. 31, 0 at first, and as the runs before left them.", this::memory);
        term("Each instruction costs one FUEL when it is begun.", this::fuel);
        term("A CALL with 6 functions under way: trap DEPTH.", this::depth);
        term("A value put where 40 are on the stacks of all functions under way: trap STACK", this::stack);
        term("(LOCALS don't count;", this::localsDontCount);
        term("the value of a function that ended takes the place of those that it left).", this::valueOfAnEndedFunction);
        term("HOST: not GRANTED: trap DENIED; else the run WAITS for an answer (the value asked with is taken).", this::host);
        term("A trap ends the run; the MEMORY stays.", this::traps);
        term("The constants: `ENDED = 1`, `NO_FUEL = 2`, `WAITING = 3`, `ARITHMETIC = 10`, `MEMORY = 11`, `DEPTH = 12`, "
                + "`STACK = 13`, `DENIED = 14`: Outcomes of resume.", this::outcomes);
        term("`NONE = -1000000000000L`: The answer of result where there is none.", this::none);
    }

    private void memory() {
        PluginRunner x = checked("2 1 0: GET 0, LOAD, GET 0, GET 1, STORE");
        for (int i = 0; i < 32; i++) {
            due("memory(" + i + ") at first", x.memory(i), 0);
        }
        for (int value = 1; value <= 2; value++) {
            for (int cell : new int[] {0, 31}) {
                runs(x, cell, value, PluginRunner.ENDED);
                due("cell " + cell + " as the run before left it", x.result(), value - 1);
            }
        }
        runs(x, 32, 5, PluginRunner.MEMORY);
        runs(x, -1, 5, PluginRunner.MEMORY);
        due("memory(0)", x.memory(0), 2);
        due("memory(31)", x.memory(31), 2);
        due("memory(1)", x.memory(1), 0);
        // A run that was replaced, or is gone, left its cells too.
        PluginRunner stopped = started("0 0 0: " + STORES + "BLOCK, END");
        due("resume(3)", stopped.resume(3), PluginRunner.NO_FUEL);
        due("start in its place", stopped.start(0, 0, 0), PluginRunner.DONE);
        due("memory(3)", stopped.memory(3), 9);
        due("erase(0)", stopped.erase(0), PluginRunner.DONE);
        due("memory(3)", stopped.memory(3), 9);
    }

    private void fuel() {
        // Instruction 18, the END that the BRANCH goes behind, is never begun.
        PluginRunner x = started("0 0 1: CONST 1, SET 0, GET 0, GET 0, ADD, GET 0, SUB, GET 0, MUL, GET 0, DIV, GET 0, LESS, "
                + "LOAD, GET 0, EQUAL, BLOCK, BRANCH 0, END, LOOP, END, DROP, RETURN");
        for (int used = 1; used <= 22; used++) {
            due("resume(1)", x.resume(1), used < 22 ? PluginRunner.NO_FUEL : PluginRunner.ENDED);
            due("fuel", x.count(5), used);
        }
        for (int value = 0; value <= 1; value++) {
            PluginRunner branching = started(value, 0, "1 0 0: BLOCK, GET 0, BRANCH_IF 0, END");
            due("resume(200)", branching.resume(200), PluginRunner.ENDED);
            due("fuel of BRANCH IF with " + value, branching.count(5), value == 0 ? 4 : 3);
        }
        PluginRunner calling = started("0 0 0: CALL 1, CALL 1", "0 0 0: CONST 1, CONST 1, STORE");
        due("resume(200)", calling.resume(200), PluginRunner.ENDED);
        due("fuel of two calls", calling.count(5), 8);
        due("fuel of a HOST that waits", waiting().count(5), 2);
        // What traps was begun, and what comes behind it wasn't.
        PluginRunner trapping = started("0 0 0: CONST 1, CONST 0, DIV, DROP");
        due("resume(3)", trapping.resume(3), PluginRunner.ARITHMETIC);
        due("fuel with a trap", trapping.count(5), 3);
        PluginRunner denied = started("0 1 0: CONST 1, HOST 0");
        due("resume(200)", denied.resume(200), PluginRunner.DENIED);
        due("fuel with DENIED", denied.count(5), 2);
    }

    private void depth() {
        PluginRunner x = checked(DEEPER);
        for (int calls = 0; calls <= 5; calls++) {
            runs(x, calls, 0, PluginRunner.ENDED);
            due("result() with " + (calls + 1) + " under way", x.result(), calls);
        }
        runs(x, 6, 0, PluginRunner.DEPTH);
        runs(x, MOST, 0, PluginRunner.DEPTH);
        runs(x, 5, 0, PluginRunner.ENDED);
        PluginRunner endless = started("0 0 0: CALL 0");
        for (int under = 2; under <= 6; under++) {
            due("resume(1)", endless.resume(1), PluginRunner.NO_FUEL);
            due("functions under way", endless.state(0), under);
        }
        due("resume(1) of a CALL with 6 under way", endless.resume(1), PluginRunner.DEPTH);
        due("fuel", endless.count(5), 6);
        // Of any function, also of one that has no code; and one that ended makes place again.
        String down = "1 0 0: BLOCK, GET 0, BRANCH_IF 0, CALL 1, CALL 1, RETURN, END, GET 0, CONST 1, SUB, CALL 0";
        PluginRunner last = checked(down, "0 0 0:");
        runs(last, 4, 0, PluginRunner.ENDED);
        runs(last, 5, 0, PluginRunner.DEPTH);
    }

    /**
     * Three functions with so many values on their stacks, and a fourth with this code above them; the
     * third has some code of its own behind the CALL.
     */
    private PluginRunner above(int below, int gives, String code, String behind) {
        String[] functions = new String[4];
        int[] shares = {14, 14, below - 28};
        for (int f = 0; f < 3; f++) {
            int left = shares[f] + (f == 2 ? gives : 0);
            // STORE takes two at once: one instruction each would be more than a function may have.
            functions[f] = "0 0 0: " + times(shares[f], "CONST 0, ") + "CALL " + (f + 1) + ", " + (f == 2 ? behind : "")
                    + times(left / 2, "STORE, ") + times(left % 2, "DROP, ");
        }
        functions[3] = "0 " + gives + " 3: " + code;
        PluginRunner x = comesTo(0, below + 3, 0, 0, functions);
        due("functions under way", x.state(0), 4);
        due("values", x.state(3), below);
        return x;
    }

    private void ends(int outcome, int below, String code) {
        due("resume(200) of " + code + " above " + below, above(below, 0, code, "").resume(200), outcome);
    }

    private void stack() {
        for (String put : new String[] {"CONST 0", "GET 0"}) {
            ends(PluginRunner.ENDED, 38, put + ", " + put + ", DROP, DROP");
            ends(PluginRunner.STACK, 38, put + ", " + put + ", " + put + ", DROP, DROP, DROP");
            ends(PluginRunner.ENDED, 39, put + ", DROP");
            ends(PluginRunner.ENDED, 39, put + ", DROP, " + put + ", DROP");
            ends(PluginRunner.STACK, 39, put + ", " + put + ", DROP, DROP");
            ends(PluginRunner.STACK, 40, put + ", DROP");
        }
        // What takes as many as it puts, or more, finds a place with 40 there.
        for (String op : new String[] {"ADD", "SUB", "MUL", "EQUAL", "LESS"}) {
            ends(PluginRunner.ENDED, 38, "CONST 0, CONST 0, " + op + ", DROP");
        }
        ends(PluginRunner.ENDED, 38, "CONST 1, CONST 1, DIV, DROP");
        ends(PluginRunner.ENDED, 39, "CONST 0, LOAD, DROP");
        PluginRunner asking = above(39, 0, "CONST 0, HOST 0, DROP", "");
        due("grant(0, true)", asking.grant(0, true), PluginRunner.DONE);
        due("resume(200)", asking.resume(200), PluginRunner.WAITING);
        due("reply(5)", asking.reply(5), PluginRunner.DONE);
        due("values with the answer", asking.state(3), 40);
        due("resume(200)", asking.resume(200), PluginRunner.ENDED);
        PluginRunner full = above(39, 0, "CONST 0, CONST 0, DROP, DROP", "");
        due("resume(1)", full.resume(1), PluginRunner.NO_FUEL);
        due("values", full.state(3), 40);
        due("resume(1)", full.resume(1), PluginRunner.STACK);
        due("runs trapped", full.count(8), 1);
    }

    private void localsDontCount() {
        // The fourth function sets its 3 locals with 40 values there.
        ends(PluginRunner.ENDED, 39, "CONST 1, SET 0, CONST 1, SET 1, CONST 1, SET 2, GET 0, DROP");
        // Five functions with 7 values and 5 locals each, and the two values that the sixth takes: 37.
        PluginRunner x = started(5, 5, "2 0 3: BLOCK, GET 0, BRANCH_IF 0, RETURN, END, " + times(7, "CONST 0, ")
                + "GET 0, CONST 1, SUB, GET 1, CALL 0, " + times(7, "DROP, "));
        due("resume(200)", x.resume(200), PluginRunner.ENDED);
        // What was taken isn't on a stack any more.
        PluginRunner taking = comesTo(0, 3, 0, 0, "0 0 0: CONST 1, CONST 2, CALL 1", "2 0 3: BLOCK, END");
        due("values", taking.state(3), 0);
    }

    private void valueOfAnEndedFunction() {
        String[] codes = {"CONST 6", "BLOCK, CONST 6, RETURN, END, CONST 7", "CONST 6, BLOCK, BRANCH 1, END"};
        int[] steps = {1, 3, 3};
        for (int i = 0; i < codes.length; i++) {
            PluginRunner x = above(39, 1, codes[i], "");
            due("resume to the function's end", x.resume(steps[i]), PluginRunner.NO_FUEL);
            due("functions under way", x.state(0), 3);
            due("values, its own the 40th", x.state(3), 40);
            due("resume(1)", x.resume(1), PluginRunner.NO_FUEL);
            due("the value was there to be stored", x.memory(0), 6);
            due("resume(200)", x.resume(200), PluginRunner.ENDED);
        }
        // It counts on, and what the function took, dropped or never gave doesn't.
        due("one more above it", above(39, 1, "CONST 6", "CONST 0, DROP, ").resume(200), PluginRunner.STACK);
        due("another in its place", above(39, 1, "CONST 6", "DROP, CONST 0, ").resume(200), PluginRunner.ENDED);
        due("none given", above(39, 0, "CONST 6, DROP", "CONST 0, DROP, ").resume(200), PluginRunner.ENDED);
        due("none given, 40 there", above(40, 0, "BLOCK, END", "CONST 0, DROP, ").resume(200), PluginRunner.STACK);
    }

    private void host() {
        for (int h = 0; h <= 3; h++) {
            String function = "0 1 0: CONST 2, CONST 7, HOST " + h + ", ADD";
            traps(PluginRunner.DENIED, 0, 0, function);
            PluginRunner others = started(function);
            for (int other = 0; other <= 3; other++) {
                due("grant(" + other + ")", others.grant(other, other != h), PluginRunner.DONE);
            }
            due("resume(200), the others GRANTED", others.resume(200), PluginRunner.DENIED);
            PluginRunner x = started(function);
            due("grant(" + h + ", true) when the run has begun", x.grant(h, true), PluginRunner.DONE);
            due("resume(3)", x.resume(3), PluginRunner.WAITING);
            due("host", x.state(4), h);
            due("asked with", x.state(5), 7);
            due("values: that is taken", x.state(3), 1);
            due("runs trapped", x.count(8), 0);
            PluginRunner back = started(function);
            due("grant(" + h + ", true)", back.grant(h, true), PluginRunner.DONE);
            due("resume(2)", back.resume(2), PluginRunner.NO_FUEL);
            due("grant(" + h + ", false)", back.grant(h, false), PluginRunner.DONE);
            due("resume(1), GRANTED no more", back.resume(1), PluginRunner.DENIED);
        }
    }

    private void traps() {
        trapsWithMemory(PluginRunner.ARITHMETIC, "CONST 1, CONST 0, DIV, DROP");
        trapsWithMemory(PluginRunner.MEMORY, "CONST 32, LOAD, DROP");
        trapsWithMemory(PluginRunner.DEPTH, "CALL 0");
        trapsWithMemory(PluginRunner.STACK, times(8, "CONST 0, ") + "CALL 0, " + times(8, "DROP, "));
        trapsWithMemory(PluginRunner.DENIED, "CONST 1, HOST 0, DROP");
    }

    private void trapsWithMemory(int trap, String code) {
        PluginRunner x = checked("0 0 0: " + STORES + code);
        for (int run = 1; run <= 2; run++) {
            runs(x, 0, 0, trap);
            noRun(x);
            due("runs trapped", x.count(8), run);
            due("runs ENDED", x.count(7), 0);
            due("CHECKED", x.count(6), 1);
            due("result()", x.result(), PluginRunner.NONE);
            for (int i = 0; i < 32; i++) {
                due("memory(" + i + ") after trap " + trap, x.memory(i), i == 3 ? 9 : 0);
            }
        }
    }

    private void outcomes() {
        due("ENDED", started("0 0 0: BLOCK, END").resume(2), 1);
        due("NO_FUEL", started("0 0 0: BLOCK, END").resume(1), 2);
        PluginRunner asking = started("0 1 0: CONST 1, HOST 0");
        due("grant(0, true)", asking.grant(0, true), 0);
        due("WAITING", asking.resume(2), 3);
        due("ARITHMETIC", started("0 1 0: CONST 1, CONST 0, DIV").resume(3), 10);
        due("MEMORY", started("0 1 0: CONST 32, LOAD").resume(2), 11);
        due("DEPTH", started("0 0 0: CALL 0").resume(6), 12);
        due("STACK", started("0 0 0: " + times(9, "CONST 0, ") + "CALL 0, " + times(9, "DROP, ")).resume(200), 13);
        due("DENIED", started("0 1 0: CONST 1, HOST 0").resume(2), 14);
    }

    private void none() {
        due("result() of a new object", new PluginRunner().result(), -1000000000000L);
        due("NONE", PluginRunner.NONE, -1000000000000L);
    }
}
