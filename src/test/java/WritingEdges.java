/** Promises 1 to 6: a new object, function, emit, erase, check and fault. */
final class WritingEdges extends Edges {
    WritingEdges(Sentences sentences) {
        super(sentences);
    }

    @Override
    void all() {
        test("What it is", "An object is used for at most 512 calls after it has been made; what later calls answer is free.",
                this::lastCall);
        promise(1, "`PluginRunner()`: No functions,", this::noFunctions);
        promise(1, "nothing GRANTED.", this::nothingGranted);
        promise(2, "`int function(int takes, int gives, int locals)`: A new function without code:", this::functionWithoutCode);
        promise(2, "takes 0 .. 2, gives 0 .. 1, locals 0 .. 3, else REFUSED;", this::functionRange);
        promise(2, "4 functions: FULL.", this::functionFull);
        promise(2, "It needs a new check, and a run under way is gone.", this::functionNeedsCheck);
        promise(2, "Answers its number.", this::functionNumber);
        promise(3, "`int emit(int f, int op, int argument)`: Adds an instruction (op 0 .. 19, any ARGUMENT) at the end of "
                + "function f's code.", this::emitAdds);
        promise(3, "No such, or op out of range: REFUSED;", this::emitRange);
        promise(3, "24 are there: FULL.", this::emitFull);
        promise(3, "It needs a new check, and a run under way is gone.", this::emitNeedsCheck);
        promise(3, "Answers its number.", this::emitNumber);
        promise(4, "`int erase(int f)`: Empties function f's code, as emit;", this::eraseEmpties);
        promise(4, "no such: REFUSED. DONE.", this::eraseRange);
        promise(5, "`int check()`: THE CHECK. No function: STATE.", this::checkWithoutFunction);
        promise(5, "A fault: -1000 - 100 * function - instruction.", this::checkTellsThePlace);
        promise(5, "Else DONE: CHECKED, until function, emit or erase is done.", this::checkedUntil);
        promise(6, "`int fault()`: The sort of the FAULT (1 .. 5) that the latest check found;", this::faultSort);
        promise(6, "0 if there was none.", this::faultNone);
    }

    private void lastCall() {
        PluginRunner x = new PluginRunner();
        due("call 1", x.function(0, 0, 0), 0);
        due("call 2", x.emit(0, op("LOOP"), 0), 0);
        due("call 3", x.emit(0, op("BRANCH"), 0), 1);
        due("call 4", x.emit(0, op("END"), 0), 2);
        due("call 5", x.check(), PluginRunner.DONE);
        due("call 6", x.start(0, 0, 0), PluginRunner.DONE);
        for (int call = 7; call <= 511; call++) {
            due("call " + call, x.resume(200), PluginRunner.NO_FUEL);
        }
        due("call 512", x.count(5), 505 * 200);
        PluginRunner many = checked("0 0 0:");
        for (int run = 0; run < 250; run++) {
            runs(many, 0, 0, PluginRunner.ENDED);
        }
        due("runs ENDED after 500 calls more", many.count(7), 250);
    }

    private void noFunctions() {
        PluginRunner x = new PluginRunner();
        due("functions", x.count(0), 0);
        for (int f = 0; f < 4; f++) {
            due("instructions of function " + f, x.count(f + 1), 0);
            due("emit(" + f + ", 0, 0)", x.emit(f, 0, 0), PluginRunner.REFUSED);
            due("erase(" + f + ")", x.erase(f), PluginRunner.REFUSED);
            due("start(" + f + ", 0, 0)", x.start(f, 0, 0), PluginRunner.STATE);
        }
        due("check()", x.check(), PluginRunner.STATE);
        due("CHECKED", x.count(6), 0);
        due("fuel", x.count(5), 0);
        due("runs ENDED", x.count(7), 0);
        due("runs trapped", x.count(8), 0);
        noRun(x);
    }

    private void nothingGranted() {
        for (int h = 0; h <= 3; h++) {
            traps(PluginRunner.DENIED, 0, 0, "0 1 0: CONST 1, HOST " + h);
        }
    }

    private void functionWithoutCode() {
        PluginRunner x = written("0 1 0: CONST 5");
        for (int f = 1; f < 4; f++) {
            due("function(0, 0, 0)", x.function(0, 0, 0), f);
            due("instructions of the new function", x.count(f + 1), 0);
        }
        due("instructions of function 0", x.count(1), 1);
        due("check()", x.check(), PluginRunner.DONE);
        due("start(3, 0, 0)", x.start(3, 0, 0), PluginRunner.DONE);
        due("resume(1)", x.resume(1), PluginRunner.ENDED);
        due("fuel", x.count(5), 0);
    }

    private void functionRange() {
        int[][] allowed = {{0, 0, 0}, {2, 0, 0}, {0, 1, 0}, {0, 0, 3}, {2, 1, 3}};
        for (int[] right : allowed) {
            due("function in range", new PluginRunner().function(right[0], right[1], right[2]), 0);
        }
        int[][] refused = {{-1, 0, 0}, {3, 0, 0}, {LEAST, 0, 0}, {MOST, 0, 0}, {0, -1, 0}, {0, 2, 0}, {0, LEAST, 0},
            {0, MOST, 0}, {0, 0, -1}, {0, 0, 4}, {0, 0, LEAST}, {0, 0, MOST}, {3, 2, 4}, {-1, -1, -1}};
        PluginRunner x = waiting();
        String before = Kit.everything(x);
        for (int[] wrong : refused) {
            due("function(" + wrong[0] + ", " + wrong[1] + ", " + wrong[2] + ")",
                    x.function(wrong[0], wrong[1], wrong[2]), PluginRunner.REFUSED);
        }
        unchanged(x, before);
    }

    /** A refused call left all that can be asked for, and the run that waits() goes on. */
    private void unchanged(PluginRunner x, String before) {
        holds("nothing changed", before.equals(Kit.everything(x)));
        due("reply(4)", x.reply(4), PluginRunner.DONE);
        due("resume(1)", x.resume(1), PluginRunner.ENDED);
        due("result()", x.result(), 4);
    }

    private void functionFull() {
        PluginRunner x = written("0 1 0: CONST 7, HOST 0", "0 0 0:", "0 0 0:");
        due("the fourth", x.function(0, 0, 0), 3);
        due("grant(0, true)", x.grant(0, true), PluginRunner.DONE);
        due("check()", x.check(), PluginRunner.DONE);
        runs(x, 0, 0, PluginRunner.WAITING);
        String before = Kit.everything(x);
        due("the fifth", x.function(0, 0, 0), PluginRunner.FULL);
        due("the fifth again", x.function(2, 1, 3), PluginRunner.FULL);
        due("the fifth, out of range", x.function(3, 1, 3), PluginRunner.REFUSED);
        unchanged(x, before);
    }

    /** A change was done: nothing is CHECKED and no run is there, but what was counted stays. */
    private void changed(PluginRunner x) {
        due("CHECKED", x.count(6), 0);
        noRun(x);
        due("start(0, 0, 0)", x.start(0, 0, 0), PluginRunner.STATE);
        due("runs ENDED", x.count(7), 0);
        due("runs trapped", x.count(8), 0);
    }

    private void functionNeedsCheck() {
        PluginRunner x = waiting();
        due("function(0, 0, 0)", x.function(0, 0, 0), 1);
        changed(x);
        due("check()", x.check(), PluginRunner.DONE);
        noRun(x);
        PluginRunner stopped = comesTo(1, 1, 0, 0, "0 0 0: BLOCK, END");
        due("function(0, 0, 0)", stopped.function(0, 0, 0), 1);
        changed(stopped);
    }

    private void functionNumber() {
        PluginRunner x = new PluginRunner();
        due("the first", x.function(2, 1, 3), 0);
        due("a refused one", x.function(3, 1, 3), PluginRunner.REFUSED);
        due("the second", x.function(0, 0, 0), 1);
        due("the third", x.function(0, 0, 0), 2);
        due("the last", x.function(1, 1, 1), 3);
    }

    private void emitAdds() {
        for (int op = 0; op <= 19; op++) {
            PluginRunner x = written("0 0 0:");
            int number = 0;
            for (int argument : new int[] {LEAST, -1, 0, 1, MOST}) {
                due("emit(0, " + op + ", " + argument + ")", x.emit(0, op, argument), number++);
            }
            due("instructions", x.count(1), 5);
        }
        for (int argument : new int[] {LEAST, -1, 0, 1, 1000000, MOST}) {
            gives(argument, 0, 0, "0 1 0: CONST " + argument);
        }
        PluginRunner x = written("0 1 0: CONST 5, CONST 7", "0 0 0:");
        due("emit at the end", x.emit(0, op("SUB"), 0), 2);
        due("instructions of the other", x.count(2), 0);
        due("check()", x.check(), PluginRunner.DONE);
        runs(x, 0, 0, PluginRunner.ENDED);
        due("result()", x.result(), -2);
    }

    private void emitRange() {
        due("emit without a function", new PluginRunner().emit(0, 0, 0), PluginRunner.REFUSED);
        for (int count = 1; count <= 4; count++) {
            PluginRunner x = waiting();
            for (int f = 1; f < count; f++) {
                due("function(0, 0, 0)", x.function(0, 0, 0), f);
            }
            for (int f = count; f <= 4; f++) {
                due("emit(" + f + ", 0, 0) of " + count, x.emit(f, 0, 0), PluginRunner.REFUSED);
            }
            due("emit(-1, 0, 0)", x.emit(-1, 0, 0), PluginRunner.REFUSED);
            due("emit to the last", x.emit(count - 1, 19, 0), x.count(count) - 1);
        }
        PluginRunner x = waiting();
        String before = Kit.everything(x);
        for (int f : new int[] {-1, 1, LEAST, MOST}) {
            due("emit(" + f + ", 0, 0)", x.emit(f, 0, 0), PluginRunner.REFUSED);
        }
        for (int op : new int[] {-1, 20, LEAST, MOST}) {
            due("emit(0, " + op + ", 0)", x.emit(0, op, 0), PluginRunner.REFUSED);
        }
        unchanged(x, before);
        PluginRunner ends = written("0 0 0:");
        due("emit(0, 0, 0)", ends.emit(0, 0, 0), 0);
        due("emit(0, 19, 0)", ends.emit(0, 19, 0), 1);
    }

    private void emitFull() {
        PluginRunner x = written("0 1 0: CONST 7, HOST 0", "0 0 0: " + times(11, "BLOCK, END, ") + "BLOCK");
        due("the 24th", x.emit(1, op("END"), 0), 23);
        due("grant(0, true)", x.grant(0, true), PluginRunner.DONE);
        due("check()", x.check(), PluginRunner.DONE);
        runs(x, 0, 0, PluginRunner.WAITING);
        String before = Kit.everything(x);
        due("the 25th", x.emit(1, op("BLOCK"), 0), PluginRunner.FULL);
        due("the 25th, no op", x.emit(1, 20, 0), PluginRunner.REFUSED);
        unchanged(x, before);
        due("one to the other function", x.emit(0, op("DROP"), 0), 2);
    }

    private void emitNeedsCheck() {
        PluginRunner x = waiting();
        due("emit(0, RETURN, 0)", x.emit(0, op("RETURN"), 0), 2);
        changed(x);
        due("check()", x.check(), PluginRunner.DONE);
        noRun(x);
        // The code that is changed need not be that of the run.
        PluginRunner stopped = comesTo(1, 1, 0, 0, "0 0 0: BLOCK, END", "0 0 0:");
        due("emit(1, RETURN, 0)", stopped.emit(1, op("RETURN"), 0), 0);
        changed(stopped);
    }

    private void emitNumber() {
        PluginRunner x = written("0 0 0:", "0 0 0:");
        for (int i = 0; i < 24; i++) {
            due("emit to function 0", x.emit(0, 0, 0), i);
            due("a refused emit", x.emit(0, 20, 0), PluginRunner.REFUSED);
            due("emit to function 1", x.emit(1, 0, 0), i);
        }
        due("erase(0)", x.erase(0), PluginRunner.DONE);
        due("emit after erase", x.emit(0, 0, 0), 0);
    }

    private void eraseEmpties() {
        PluginRunner x = written("0 1 0: " + times(24, "CONST 9, "), "0 0 0: BLOCK, END");
        due("erase(0)", x.erase(0), PluginRunner.DONE);
        due("instructions of function 0", x.count(1), 0);
        due("instructions of function 1", x.count(2), 2);
        due("functions", x.count(0), 2);
        add(x, 0, "CONST 4");
        due("check()", x.check(), PluginRunner.DONE);
        runs(x, 0, 0, PluginRunner.ENDED);
        due("result()", x.result(), 4);
        // As emit: a new check, and the run is gone, even if there was no code to empty.
        PluginRunner asking = waiting();
        due("erase(0)", asking.erase(0), PluginRunner.DONE);
        changed(asking);
        PluginRunner empty = comesTo(1, 1, 0, 0, "0 0 0: BLOCK, END", "0 0 0:");
        due("erase(1) of no code", empty.erase(1), PluginRunner.DONE);
        changed(empty);
        due("instructions of function 0", empty.count(1), 2);
    }

    private void eraseRange() {
        due("erase without a function", new PluginRunner().erase(0), PluginRunner.REFUSED);
        PluginRunner x = waiting();
        String before = Kit.everything(x);
        for (int f : new int[] {-1, 1, 3, 4, LEAST, MOST}) {
            due("erase(" + f + ")", x.erase(f), PluginRunner.REFUSED);
        }
        unchanged(x, before);
        PluginRunner all = written("0 0 0:", "0 0 0:", "0 0 0:", "0 0 0: BLOCK");
        due("erase(4)", all.erase(4), PluginRunner.REFUSED);
        due("erase(3)", all.erase(3), PluginRunner.DONE);
        due("erase(0)", all.erase(0), PluginRunner.DONE);
        due("instructions", all.count(4), 0);
    }

    private void checkWithoutFunction() {
        PluginRunner x = new PluginRunner();
        due("check()", x.check(), PluginRunner.STATE);
        due("CHECKED", x.count(6), 0);
        due("fault()", x.fault(), 0);
        due("function(3, 0, 0)", x.function(3, 0, 0), PluginRunner.REFUSED);
        due("check() after a refused function", x.check(), PluginRunner.STATE);
        due("function(0, 0, 0)", x.function(0, 0, 0), 0);
        due("check() with one", x.check(), PluginRunner.DONE);
        due("CHECKED", x.count(6), 1);
    }

    private void checkTellsThePlace() {
        faulty(4, 0, 0, "0 1 0:");
        faulty(3, 0, 0, "0 0 0: END");
        faulty(3, 0, 23, "0 0 0: " + times(11, "BLOCK, END, ") + "RETURN, END");
        faulty(4, 0, 24, "0 0 0: " + times(24, "CONST 1, "));
        faulty(4, 3, 0, "0 0 0:", "0 0 0:", "0 0 0:", "0 1 0:");
        faulty(4, 3, 24, "0 0 0:", "0 0 0:", "0 0 0:", "0 0 0: " + times(24, "CONST 1, "));
        faulty(2, 2, 1, "0 0 0:", "0 0 0:", "0 0 0: CONST 1, ADD", "0 1 0:");
        due("check() in plain numbers", written("0 0 0:", "0 0 0: BLOCK, END, END").check(), -1102);
    }

    private void checkedUntil() {
        PluginRunner x = written("0 0 0: BLOCK, END");
        due("CHECKED before", x.count(6), 0);
        due("check()", x.check(), PluginRunner.DONE);
        due("CHECKED", x.count(6), 1);
        due("check() again", x.check(), PluginRunner.DONE);
        due("start(0, 0, 0)", x.start(0, 0, 0), PluginRunner.DONE);
        due("check() with a run under way", x.check(), PluginRunner.DONE);
        due("functions under way", x.state(0), 1);
        // Nothing else ends it, nor does one of the three that isn't done.
        due("resume(200)", x.resume(200), PluginRunner.ENDED);
        due("poke(0, 1)", x.poke(0, 1), PluginRunner.DONE);
        due("grant(0, true)", x.grant(0, true), PluginRunner.DONE);
        due("reply(1)", x.reply(1), PluginRunner.STATE);
        due("function(3, 0, 0)", x.function(3, 0, 0), PluginRunner.REFUSED);
        due("emit(0, 20, 0)", x.emit(0, 20, 0), PluginRunner.REFUSED);
        due("erase(1)", x.erase(1), PluginRunner.REFUSED);
        due("CHECKED still", x.count(6), 1);
        due("function(0, 0, 0)", x.function(0, 0, 0), 1);
        due("CHECKED after function", x.count(6), 0);
        due("check()", x.check(), PluginRunner.DONE);
        due("emit(1, RETURN, 0)", x.emit(1, op("RETURN"), 0), 0);
        due("CHECKED after emit", x.count(6), 0);
        due("check()", x.check(), PluginRunner.DONE);
        due("erase(1)", x.erase(1), PluginRunner.DONE);
        due("CHECKED after erase", x.count(6), 0);
        due("emit(1, END, 0)", x.emit(1, op("END"), 0), 0);
        due("check() with a fault", x.check(), -1100);
        due("CHECKED after a fault", x.count(6), 0);
    }

    private void faultSort() {
        String[] codes = {"GET 0", "DROP", "END", "CONST 1", "RETURN, RETURN"};
        PluginRunner x = written("0 0 0:");
        for (int sort = 1; sort <= 5; sort++) {
            due("erase(0)", x.erase(0), PluginRunner.DONE);
            due("fault() before the next check", x.fault(), sort - 1);
            add(x, 0, codes[sort - 1]);
            due("check()", x.check(), sort < 4 ? -1000 : -1001);
            due("fault()", x.fault(), sort);
            due("fault() again", x.fault(), sort);
        }
        due("a refused emit", x.emit(0, 20, 0), PluginRunner.REFUSED);
        due("function(0, 0, 0)", x.function(0, 0, 0), 1);
        due("fault() of the latest check still", x.fault(), 5);
    }

    private void faultNone() {
        PluginRunner x = new PluginRunner();
        due("fault() of a new object", x.fault(), 0);
        due("check() without a function", x.check(), PluginRunner.STATE);
        due("fault()", x.fault(), 0);
        due("function(0, 0, 0)", x.function(0, 0, 0), 0);
        due("emit(0, END, 0)", x.emit(0, op("END"), 0), 0);
        due("fault() before its check", x.fault(), 0);
        due("check()", x.check(), -1000);
        due("erase(0)", x.erase(0), PluginRunner.DONE);
        due("check()", x.check(), PluginRunner.DONE);
        due("fault() after a check without one", x.fault(), 0);
    }
}
