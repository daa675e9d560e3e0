/** Promises 12 to 15: memory, poke, state and count. */
final class AskingEdges extends Edges {
    AskingEdges(Sentences sentences) {
        super(sentences);
    }

    @Override
    void all() {
        promise(12, "`long memory(int i)`: The cell i (0 .. 31) of the MEMORY;", this::memory);
        promise(12, "else NONE.", this::memoryNone);
        promise(13, "`int poke(int i, int value)`: Sets a cell (0 .. 31, else REFUSED): DONE.", this::poke);
        promise(14, "`int state(int what)`: Of the run under way (also if it WAITS): functions under way (0),", this::functionsUnderWay);
        promise(14, "the innermost one (1),", this::innermost);
        promise(14, "its next instruction (2; that behind the HOST if it WAITS),", this::next);
        promise(14, "values on all stacks (3),", this::values);
        promise(14, "the host number that it WAITS for, -1 if not (4),", this::hostNumber);
        promise(14, "the value asked with, 0 if not (5).", this::askedWith);
        promise(14, "No run: -1 each;", this::noRunAtAll);
        promise(14, "another what: REFUSED.", this::stateRange);
        promise(15, "`int count(int what)`: Functions (0),", this::functions);
        promise(15, "instructions of function what - 1 (1 .. 4, 0 if it isn't there),", this::instructions);
        promise(15, "fuel used in all runs (5),", this::fuelUsed);
        promise(15, "1 if CHECKED, else 0 (6),", this::isChecked);
        promise(15, "runs ENDED (7),", this::runsEnded);
        promise(15, "trapped (8);", this::runsTrapped);
        promise(15, "another what: REFUSED.", this::countRange);
    }

    private void memory() {
        PluginRunner x = checked("2 0 0: GET 0, GET 1, STORE");
        for (int i = 0; i < 32; i++) {
            due("memory(" + i + ") at first", x.memory(i), 0);
        }
        for (int cell : new int[] {0, 1, 30, 31}) {
            for (int value : new int[] {LEAST, -1, MOST, cell}) {
                runs(x, cell, value, PluginRunner.ENDED);
                due("memory(" + cell + ")", x.memory(cell), value);
            }
        }
        due("memory(2), never set", x.memory(2), 0);
        due("memory(29), never set", x.memory(29), 0);
    }

    private void memoryNone() {
        PluginRunner x = new PluginRunner();
        for (int i : new int[] {-1, 32, LEAST, MOST}) {
            due("memory(" + i + ")", x.memory(i), PluginRunner.NONE);
        }
        due("memory(0)", x.memory(0), 0);
        due("memory(31)", x.memory(31), 0);
    }

    private void poke() {
        PluginRunner x = waiting();
        String before = Kit.everything(x);
        for (int i : new int[] {-1, 32, LEAST, MOST}) {
            due("poke(" + i + ", 1)", x.poke(i, 1), PluginRunner.REFUSED);
        }
        holds("nothing changed", before.equals(Kit.everything(x)));
        for (int i = 0; i < 32; i++) {
            due("poke(" + i + ")", x.poke(i, 50 - i), PluginRunner.DONE);
        }
        for (int i = 0; i < 32; i++) {
            due("memory(" + i + ")", x.memory(i), 50 - i);
        }
        for (int value : new int[] {LEAST, -1, 0, MOST}) {
            due("poke(0, " + value + ")", x.poke(0, value), PluginRunner.DONE);
            due("poke(31, " + value + ")", x.poke(31, value), PluginRunner.DONE);
            due("memory(0)", x.memory(0), value);
            due("memory(31)", x.memory(31), value);
        }
        due("memory(1)", x.memory(1), 49);
        due("CHECKED still", x.count(6), 1);
        due("the run still WAITS for", x.state(4), 0);
        // A run that is under way loads what was set.
        PluginRunner loading = comesTo(1, 1, 0, 0, "0 1 0: CONST 31, LOAD");
        due("poke(31, 8)", loading.poke(31, 8), PluginRunner.DONE);
        due("resume(1)", loading.resume(1), PluginRunner.ENDED);
        due("result()", loading.result(), 8);
    }

    private void functionsUnderWay() {
        PluginRunner x = started(5, 0, "1 0 0: BLOCK, GET 0, BRANCH_IF 0, RETURN, END, GET 0, CONST 1, SUB, CALL 0, BLOCK, END");
        due("at first", x.state(0), 1);
        for (int under = 2; under <= 6; under++) {
            due("resume(6)", x.resume(6), PluginRunner.NO_FUEL);
            due("before the CALL", x.state(0), under - 1);
            due("resume(1)", x.resume(1), PluginRunner.NO_FUEL);
            due("behind the CALL", x.state(0), under);
        }
        due("resume(4) to the RETURN of the sixth", x.resume(4), PluginRunner.NO_FUEL);
        due("behind it", x.state(0), 5);
        for (int under = 4; under >= 1; under--) {
            due("resume(2)", x.resume(2), PluginRunner.NO_FUEL);
            due("functions under way", x.state(0), under);
        }
        due("resume(2)", x.resume(2), PluginRunner.ENDED);
        due("functions under way", x.state(0), -1);
        due("of a run that WAITS", waiting().state(0), 1);
        PluginRunner asking = started("0 1 0: CALL 1", "0 1 0: CONST 1, HOST 0");
        due("grant(0, true)", asking.grant(0, true), PluginRunner.DONE);
        due("resume(200)", asking.resume(200), PluginRunner.WAITING);
        due("of two, WAITING", asking.state(0), 2);
    }

    private void innermost() {
        String[] functions = {"0 0 0: CALL 1", "0 0 0: CALL 2", "0 0 0: CALL 3, BLOCK, END", "0 0 0: BLOCK, END"};
        PluginRunner x = started(functions);
        int[] due = {0, 1, 2, 3, 3, 2, 2};
        for (int i = 0; i < due.length; i++) {
            due("innermost after " + i, x.state(1), due[i]);
            due("resume(1)", x.resume(1), i < due.length - 1 ? PluginRunner.NO_FUEL : PluginRunner.ENDED);
        }
        for (int f = 0; f < 4; f++) {
            due("start(" + f + ", 0, 0)", x.start(f, 0, 0), PluginRunner.DONE);
            due("innermost", x.state(1), f);
        }
        PluginRunner asking = started("0 1 0: CALL 1", "0 1 0: CONST 1, HOST 0");
        due("grant(0, true)", asking.grant(0, true), PluginRunner.DONE);
        due("resume(200)", asking.resume(200), PluginRunner.WAITING);
        due("innermost while it WAITS", asking.state(1), 1);
    }

    private void next() {
        due("next of no code", started("0 0 0:").state(2), 0);
        PluginRunner x = started("0 0 0: " + times(12, "BLOCK, END, "));
        for (int i = 0; i < 24; i++) {
            due("next", x.state(2), i);
            due("resume(1)", x.resume(1), i < 23 ? PluginRunner.NO_FUEL : PluginRunner.ENDED);
        }
        // Behind the HOST, while it WAITS and when it was answered; a refused resume doesn't change it.
        PluginRunner asking = started("0 1 0: CONST 1, HOST 0, HOST 0, CONST 1, ADD");
        due("grant(0, true)", asking.grant(0, true), PluginRunner.DONE);
        for (int behind = 2; behind <= 3; behind++) {
            due("resume(200)", asking.resume(200), PluginRunner.WAITING);
            due("behind the HOST", asking.state(2), behind);
            due("resume(201)", asking.resume(201), PluginRunner.REFUSED);
            due("reply(1)", asking.reply(1), PluginRunner.DONE);
            due("behind the HOST, answered", asking.state(2), behind);
        }
        due("behind a HOST that is the last", waiting().state(2), 2);
        // Of the innermost one, and behind the CALL when that has ended.
        PluginRunner calling = comesTo(0, 2, 0, 0, "0 0 0: CONST 1, CALL 1, BLOCK, END", "1 0 0: BLOCK, END");
        due("resume(1)", calling.resume(1), PluginRunner.NO_FUEL);
        due("next of the callee", calling.state(2), 1);
        due("resume(1)", calling.resume(1), PluginRunner.NO_FUEL);
        due("next of the caller", calling.state(2), 2);
    }

    private void values() {
        PluginRunner x = started("0 1 0: CONST 1, CONST 2, CALL 1, ADD", "1 1 3: GET 0, GET 0, MUL");
        int[] due = {0, 1, 2, 1, 2, 3, 2};
        for (int i = 0; i < due.length; i++) {
            due("values after " + i, x.state(3), due[i]);
            due("resume(1)", x.resume(1), i < due.length - 1 ? PluginRunner.NO_FUEL : PluginRunner.ENDED);
        }
        due("values when it ended", x.state(3), -1);
        due("start(0, 0, 0)", x.start(0, 0, 0), PluginRunner.DONE);
        due("values of a new run", x.state(3), 0);
        due("values while it WAITS", waiting().state(3), 0);
        PluginRunner most = started("0 0 0: " + times(8, "CONST 0, ") + "CALL 0, " + times(8, "DROP, "));
        due("resume(44)", most.resume(44), PluginRunner.NO_FUEL);
        due("40 values on the stacks of five", most.state(3), 40);
    }

    private void hostNumber() {
        for (int h = 0; h <= 3; h++) {
            PluginRunner x = checked("0 1 0: CONST 1, HOST " + h);
            due("grant(" + h + ", true)", x.grant(h, true), PluginRunner.DONE);
            due("start(0, 0, 0)", x.start(0, 0, 0), PluginRunner.DONE);
            due("just started", x.state(4), -1);
            due("resume(1)", x.resume(1), PluginRunner.NO_FUEL);
            due("the HOST not begun", x.state(4), -1);
            due("resume(1)", x.resume(1), PluginRunner.WAITING);
            due("it WAITS for", x.state(4), h);
            due("reply(1)", x.reply(1), PluginRunner.DONE);
            due("answered", x.state(4), -1);
        }
    }

    private void askedWith() {
        for (int value : new int[] {LEAST, -1, 0, 1, MOST}) {
            PluginRunner x = checked("1 1 0: GET 0, HOST 0");
            due("grant(0, true)", x.grant(0, true), PluginRunner.DONE);
            due("start(0, a, 0)", x.start(0, value, 0), PluginRunner.DONE);
            due("just started", x.state(5), 0);
            due("resume(1)", x.resume(1), PluginRunner.NO_FUEL);
            due("the HOST not begun", x.state(5), 0);
            due("resume(1)", x.resume(1), PluginRunner.WAITING);
            due("asked with", x.state(5), value);
            due("reply(9)", x.reply(9), PluginRunner.DONE);
            due("answered", x.state(5), 0);
        }
    }

    private void noRunAtAll() {
        noRun(new PluginRunner());
        noRun(written("0 0 0:"));
        PluginRunner x = checked("1 1 0: CONST 8, GET 0, DIV");
        noRun(x);
        runs(x, 2, 0, PluginRunner.ENDED);
        noRun(x);
        runs(x, 0, 0, PluginRunner.ARITHMETIC);
        noRun(x);
        PluginRunner gone = waiting();
        due("erase(0)", gone.erase(0), PluginRunner.DONE);
        noRun(gone);
    }

    private void stateRange() {
        PluginRunner[] objects = {new PluginRunner(), started("0 0 0:"), waiting()};
        for (PluginRunner x : objects) {
            for (int what : new int[] {-1, 6, LEAST, MOST}) {
                due("state(" + what + ")", x.state(what), PluginRunner.REFUSED);
            }
        }
        // The first and the last that are allowed, where their answers aren't -1.
        due("state(0)", waiting().state(0), 1);
        due("state(5)", waiting().state(5), 7);
    }

    private void functions() {
        PluginRunner x = new PluginRunner();
        for (int f = 0; f < 4; f++) {
            due("functions", x.count(0), f);
            due("function(0, 0, 0)", x.function(0, 0, 0), f);
        }
        due("functions", x.count(0), 4);
        due("a fifth", x.function(0, 0, 0), PluginRunner.FULL);
        due("erase(0)", x.erase(0), PluginRunner.DONE);
        due("functions", x.count(0), 4);
    }

    private void instructions() {
        for (int count = 0; count <= 4; count++) {
            PluginRunner x = new PluginRunner();
            for (int f = 0; f < count; f++) {
                due("function(0, 0, 0)", x.function(0, 0, 0), f);
                due("instructions before the first", x.count(f + 1), 0);
                add(x, f, times(f + 1, "CONST 1, "));
            }
            for (int f = 0; f < 4; f++) {
                due("instructions of function " + f + " of " + count, x.count(f + 1), f < count ? f + 1 : 0);
            }
        }
        PluginRunner full = written("0 0 0: " + times(24, "CONST 1, "));
        due("instructions", full.count(1), 24);
        due("a 25th", full.emit(0, 0, 0), PluginRunner.FULL);
        due("instructions", full.count(1), 24);
        due("erase(0)", full.erase(0), PluginRunner.DONE);
        due("instructions", full.count(1), 0);
    }

    private void fuelUsed() {
        PluginRunner x = checked("1 1 0: CONST 8, GET 0, DIV");
        due("before a run", x.count(5), 0);
        runs(x, 2, 0, PluginRunner.ENDED);
        due("of one that ENDED", x.count(5), 3);
        runs(x, 0, 0, PluginRunner.ARITHMETIC);
        due("and one that trapped", x.count(5), 6);
        due("start(0, 1, 0)", x.start(0, 1, 0), PluginRunner.DONE);
        due("and one that has just begun", x.count(5), 6);
        due("resume(2)", x.resume(2), PluginRunner.NO_FUEL);
        due("and used two", x.count(5), 8);
        due("start(0, 1, 0)", x.start(0, 1, 0), PluginRunner.DONE);
        due("and was replaced", x.count(5), 8);
        due("resume(1)", x.resume(1), PluginRunner.NO_FUEL);
        due("resume(0)", x.resume(0), PluginRunner.REFUSED);
        due("erase(0)", x.erase(0), PluginRunner.DONE);
        due("and one that is gone", x.count(5), 9);
        due("resume(1)", x.resume(1), PluginRunner.STATE);
        due("a refused one uses none", x.count(5), 9);
    }

    private void isChecked() {
        PluginRunner x = new PluginRunner();
        due("of a new object", x.count(6), 0);
        due("check()", x.check(), PluginRunner.STATE);
        due("without a function", x.count(6), 0);
        due("function(0, 0, 0)", x.function(0, 0, 0), 0);
        due("before a check", x.count(6), 0);
        due("check()", x.check(), PluginRunner.DONE);
        due("after it", x.count(6), 1);
        due("start(0, 0, 0)", x.start(0, 0, 0), PluginRunner.DONE);
        due("resume(1)", x.resume(1), PluginRunner.ENDED);
        due("after a run", x.count(6), 1);
        due("emit(0, END, 0)", x.emit(0, op("END"), 0), 0);
        due("after a change", x.count(6), 0);
        due("check()", x.check(), -1000);
        due("after a fault", x.count(6), 0);
    }

    private void runsEnded() {
        PluginRunner x = checked("1 1 0: CONST 8, GET 0, DIV");
        due("at first", x.count(7), 0);
        for (int runs = 1; runs <= 3; runs++) {
            due("start(0, 1, 0)", x.start(0, 1, 0), PluginRunner.DONE);
            due("resume(2)", x.resume(2), PluginRunner.NO_FUEL);
            due("not ENDED yet", x.count(7), runs - 1);
            due("resume(1)", x.resume(1), PluginRunner.ENDED);
            due("runs ENDED", x.count(7), runs);
        }
        runs(x, 0, 0, PluginRunner.ARITHMETIC);
        due("a trap is no end", x.count(7), 3);
        due("start(0, 1, 0)", x.start(0, 1, 0), PluginRunner.DONE);
        due("start(0, 1, 0)", x.start(0, 1, 0), PluginRunner.DONE);
        due("erase(0)", x.erase(0), PluginRunner.DONE);
        due("nor is being replaced or gone", x.count(7), 3);
        // Many functions end here, and one run.
        PluginRunner calling = started("0 0 0: CALL 1, CALL 1", "0 0 0:");
        due("resume(200)", calling.resume(200), PluginRunner.ENDED);
        due("runs ENDED", calling.count(7), 1);
    }

    private void runsTrapped() {
        PluginRunner x = checked("1 1 0: CONST 8, GET 0, DIV");
        due("at first", x.count(8), 0);
        for (int runs = 1; runs <= 3; runs++) {
            due("start(0, 0, 0)", x.start(0, 0, 0), PluginRunner.DONE);
            due("resume(2)", x.resume(2), PluginRunner.NO_FUEL);
            due("not trapped yet", x.count(8), runs - 1);
            due("resume(1)", x.resume(1), PluginRunner.ARITHMETIC);
            due("runs trapped", x.count(8), runs);
        }
        runs(x, 1, 0, PluginRunner.ENDED);
        due("an end is no trap", x.count(8), 3);
        due("start(0, 1, 0)", x.start(0, 1, 0), PluginRunner.DONE);
        due("start(0, 1, 0)", x.start(0, 1, 0), PluginRunner.DONE);
        due("erase(0)", x.erase(0), PluginRunner.DONE);
        due("nor is being replaced or gone", x.count(8), 3);
        traps(PluginRunner.DEPTH, 0, 0, "0 0 0: CALL 0");
    }

    private void countRange() {
        PluginRunner[] objects = {new PluginRunner(), written("0 0 0:", "0 0 0:", "0 0 0:", "0 0 0:"), waiting()};
        for (PluginRunner x : objects) {
            for (int what : new int[] {-1, 9, LEAST, MOST}) {
                due("count(" + what + ")", x.count(what), PluginRunner.REFUSED);
            }
            for (int what = 0; what <= 8; what++) {
                holds("count(" + what + ") is an answer", x.count(what) >= 0);
            }
        }
    }
}
