import java.util.Arrays;

/** Promises 7 to 11: start, resume, reply, grant and result. */
final class RunEdges extends Edges {
    RunEdges(Sentences sentences) {
        super(sentences);
    }

    @Override
    void all() {
        promise(7, "`int start(int f, int a, int b)`: Begins a run of function f with as many of a, b as it takes,",
                this::startTakes);
        promise(7, "in place of one under way.", this::startInPlace);
        promise(7, "Not CHECKED: STATE;", this::startNotChecked);
        promise(7, "no such function: REFUSED. DONE.", this::startRange);
        promise(8, "`int resume(int fuel)`: Goes on with the run with so much fuel (1 .. 200, else REFUSED).", this::resumeRange);
        promise(8, "No run under way (none started, or ended or trapped), or it WAITS: STATE.", this::resumeWithoutRun);
        promise(8, "Answers ENDED, NO_FUEL (all is used, the next instruction not begun; the run can go on), WAITING, "
                + "or the trap.", this::resumeAnswers);
        promise(8, "A run whose last instruction uses the last fuel is ENDED.", this::lastFuel);
        promise(9, "`int reply(int value)`: Answers the host call that the run WAITS for: the value is put.", this::replyPuts);
        promise(9, "It doesn't WAIT: STATE. DONE.", this::replyWithoutWaiting);
        promise(10, "`int grant(int h, boolean on)`: Host number h (0 .. 3) is GRANTED, or not: DONE;", this::grant);
        promise(10, "else REFUSED.", this::grantRange);
        promise(11, "`long result()`: What the latest ENDED run gave;", this::result);
        promise(11, "NONE if there was none, or it gave nothing.", this::resultNone);
    }

    private void startTakes() {
        int[] ends = {LEAST, -1, 0, 1, MOST};
        PluginRunner none = checked("0 1 2: GET 0, GET 1, ADD");
        PluginRunner one = checked("1 1 1: GET 0, GET 1, SUB");
        PluginRunner two = checked("2 1 0: GET 0, GET 1, SUB");
        for (int a : ends) {
            for (int b : ends) {
                runs(none, a, b, PluginRunner.ENDED);
                due("none taken of " + a + ", " + b, none.result(), 0);
                runs(one, a, b, PluginRunner.ENDED);
                due("one taken of " + a + ", " + b, one.result(), a);
                runs(two, a, b, PluginRunner.ENDED);
                due("both taken of " + a + ", " + b, two.result(), a - b);
            }
        }
        String[] functions = {"0 1 0: CONST 10", "0 1 0: CONST 11", "0 1 0: CONST 12", "0 1 0: CONST 13"};
        for (int f = 0; f < 4; f++) {
            PluginRunner x = checked(functions);
            due("start(" + f + ", 0, 0)", x.start(f, 0, 0), PluginRunner.DONE);
            due("innermost function", x.state(1), f);
            due("next instruction", x.state(2), 0);
            due("values: what is taken lies in the locals", x.state(3), 0);
            due("resume(1)", x.resume(1), PluginRunner.ENDED);
            due("result()", x.result(), 10 + f);
        }
    }

    private void begun(PluginRunner x) {
        int[] due = {1, 0, 0, 0, -1, 0};
        for (int what = 0; what <= 5; what++) {
            due("state(" + what + ") of a run that has just begun", x.state(what), due[what]);
        }
    }

    private void startInPlace() {
        PluginRunner x = comesTo(0, 3, 0, 0, "0 1 0: CONST 4, CONST 5, CALL 1, ADD", "1 1 0: GET 0");
        due("functions under way", x.state(0), 2);
        due("start(0, 0, 0) in its place", x.start(0, 0, 0), PluginRunner.DONE);
        begun(x);
        due("resume(200)", x.resume(200), PluginRunner.ENDED);
        due("result()", x.result(), 9);
        PluginRunner asking = waiting();
        due("start(0, 0, 0) in place of one that WAITS", asking.start(0, 0, 0), PluginRunner.DONE);
        begun(asking);
        due("reply(1)", asking.reply(1), PluginRunner.STATE);
        due("resume(200)", asking.resume(200), PluginRunner.WAITING);
        // The one replaced counts neither as ENDED nor as trapped, but its fuel was used.
        due("runs ENDED", asking.count(7), 0);
        due("runs trapped", asking.count(8), 0);
        due("fuel", asking.count(5), 4);
    }

    private void startNotChecked() {
        PluginRunner x = written("0 0 0:");
        for (int f : new int[] {0, 1, -1, LEAST, MOST}) {
            due("start(" + f + ", 0, 0) before a check", x.start(f, 0, 0), PluginRunner.STATE);
        }
        noRun(x);
        due("check()", x.check(), PluginRunner.DONE);
        due("start(0, 0, 0)", x.start(0, 0, 0), PluginRunner.DONE);
        due("emit(0, END, 0)", x.emit(0, op("END"), 0), 0);
        due("start after emit", x.start(0, 0, 0), PluginRunner.STATE);
        due("check() with a fault", x.check(), -1000);
        due("start after a fault", x.start(0, 0, 0), PluginRunner.STATE);
        noRun(x);
        due("start without a function", new PluginRunner().start(0, 0, 0), PluginRunner.STATE);
    }

    private void startRange() {
        String[] functions = {"0 0 0:", "0 0 0:", "0 0 0:", "0 0 0:"};
        for (int count = 1; count <= 4; count++) {
            PluginRunner x = checked(Arrays.copyOf(functions, count));
            for (int f : new int[] {-1, count, 4, LEAST, MOST}) {
                due("start(" + f + ", 0, 0) of " + count, x.start(f, 0, 0), PluginRunner.REFUSED);
            }
            noRun(x);
            due("start of the last", x.start(count - 1, 0, 0), PluginRunner.DONE);
            due("start of the first", x.start(0, 0, 0), PluginRunner.DONE);
        }
        // A refused start leaves the run that is under way, also one that WAITS.
        PluginRunner x = waiting();
        String before = Kit.everything(x);
        due("start(1, 0, 0)", x.start(1, 0, 0), PluginRunner.REFUSED);
        due("start(-1, 0, 0)", x.start(-1, 0, 0), PluginRunner.REFUSED);
        holds("nothing changed", before.equals(Kit.everything(x)));
        due("reply(2)", x.reply(2), PluginRunner.DONE);
    }

    private void resumeRange() {
        PluginRunner x = started("0 0 0: LOOP, BRANCH 0, END");
        for (int fuel : new int[] {0, -1, 201, LEAST, MOST}) {
            due("resume(" + fuel + ")", x.resume(fuel), PluginRunner.REFUSED);
            due("fuel", x.count(5), 0);
            due("next instruction", x.state(2), 0);
        }
        int used = 0;
        for (int fuel : new int[] {1, 2, 199, 200}) {
            due("resume(" + fuel + ")", x.resume(fuel), PluginRunner.NO_FUEL);
            used += fuel;
            due("fuel", x.count(5), used);
        }
        // Just what is given, and none of it is kept for the next resume.
        PluginRunner exact = comesTo(1, 1, 0, 0, "0 0 0: BLOCK, END, BLOCK, END");
        due("resume(2)", exact.resume(2), PluginRunner.NO_FUEL);
        due("resume(200)", exact.resume(200), PluginRunner.ENDED);
        due("fuel", exact.count(5), 4);
        due("resume(0) without a run", exact.resume(0), PluginRunner.REFUSED);
        due("resume(201) without a run", exact.resume(201), PluginRunner.REFUSED);
        due("resume(0) while it WAITS", waiting().resume(0), PluginRunner.REFUSED);
        due("resume(201) while it WAITS", waiting().resume(201), PluginRunner.REFUSED);
    }

    private void resumeWithoutRun() {
        due("resume(1) of a new object", new PluginRunner().resume(1), PluginRunner.STATE);
        PluginRunner x = checked("1 1 0: CONST 8, GET 0, DIV");
        due("resume(1), none started", x.resume(1), PluginRunner.STATE);
        due("resume(200), none started", x.resume(200), PluginRunner.STATE);
        runs(x, 2, 0, PluginRunner.ENDED);
        due("resume(1), ended", x.resume(1), PluginRunner.STATE);
        runs(x, 0, 0, PluginRunner.ARITHMETIC);
        due("resume(1), trapped", x.resume(1), PluginRunner.STATE);
        due("fuel", x.count(5), 6);
        due("runs ENDED", x.count(7), 1);
        due("runs trapped", x.count(8), 1);
        PluginRunner asking = waiting();
        String before = Kit.everything(asking);
        due("resume(1) while it WAITS", asking.resume(1), PluginRunner.STATE);
        due("resume(200) while it WAITS", asking.resume(200), PluginRunner.STATE);
        holds("nothing changed", before.equals(Kit.everything(asking)));
        due("reply(1)", asking.reply(1), PluginRunner.DONE);
        due("resume(1)", asking.resume(1), PluginRunner.ENDED);
    }

    private void resumeAnswers() {
        // One fuel less than what is due for each outcome leaves the instruction not begun.
        answers(PluginRunner.ENDED, 3, "0 1 0: CONST 4, CONST 2, DIV");
        answers(PluginRunner.WAITING, 2, "0 1 0: CONST 4, HOST 0");
        answers(PluginRunner.ARITHMETIC, 3, "0 1 0: CONST 4, CONST 0, DIV");
        answers(PluginRunner.MEMORY, 2, "0 1 0: CONST 32, LOAD");
        answers(PluginRunner.DENIED, 2, "0 1 0: CONST 4, HOST 1");
        answers(PluginRunner.DEPTH, 6, "0 0 0: CALL 0");
        answers(PluginRunner.STACK, 45, "0 0 0: " + times(9, "CONST 0, ") + "CALL 0, " + times(9, "DROP, "));
    }

    private void answers(int outcome, int fuel, String function) {
        PluginRunner x = checked(function);
        due("grant(0, true)", x.grant(0, true), PluginRunner.DONE);
        due("start(0, 0, 0)", x.start(0, 0, 0), PluginRunner.DONE);
        due("resume(" + (fuel - 1) + ") of " + function, x.resume(fuel - 1), PluginRunner.NO_FUEL);
        due("fuel", x.count(5), fuel - 1);
        due("runs ENDED or trapped", x.count(7) + x.count(8), 0);
        due("resume(1) of " + function, x.resume(1), outcome);
        due("fuel", x.count(5), fuel);
        due("start(0, 0, 0)", x.start(0, 0, 0), PluginRunner.DONE);
        due("resume(" + fuel + ") of " + function, x.resume(fuel), outcome);
    }

    private void lastFuel() {
        String[] last = {"CONST 1", "CONST 1, RETURN", "CONST 1, BRANCH 0", "CONST 1, BLOCK, END", "CONST 1, CONST 1, BRANCH_IF 0",
            "CONST 1, CONST 1, ADD", "BLOCK, CONST 1, BRANCH 1, END, CONST 2"};
        int[] costs = {1, 2, 2, 3, 3, 3, 3};
        for (int i = 0; i < last.length; i++) {
            PluginRunner x = started("0 1 0: " + last[i]);
            due("resume(" + costs[i] + ") of " + last[i], x.resume(costs[i]), PluginRunner.ENDED);
            due("fuel", x.count(5), costs[i]);
            noRun(x);
        }
        PluginRunner calling = started("0 1 0: CALL 1", "0 1 0: CONST 1");
        due("resume(2), a callee's last", calling.resume(2), PluginRunner.ENDED);
        PluginRunner empty = started("0 0 0: CALL 1", "0 0 0:");
        due("resume(1), the CALL of no code", empty.resume(1), PluginRunner.ENDED);
        // The most fuel there is: 200 instructions, and one more.
        String loop = "1 0 0: LOOP, GET 0, CONST 1, SUB, SET 0, GET 0, BRANCH_IF 0, END, ";
        PluginRunner whole = started(33, 0, loop);
        due("resume(200) of 200", whole.resume(200), PluginRunner.ENDED);
        due("fuel", whole.count(5), 200);
        PluginRunner more = started(33, 0, loop + "RETURN");
        due("resume(200) of 201", more.resume(200), PluginRunner.NO_FUEL);
        due("resume(1)", more.resume(1), PluginRunner.ENDED);
    }

    private void replyPuts() {
        for (int value : new int[] {LEAST, -1, 0, 1, MOST}) {
            PluginRunner x = waiting();
            due("reply(" + value + ")", x.reply(value), PluginRunner.DONE);
            due("values", x.state(3), 1);
            due("host", x.state(4), -1);
            due("asked with", x.state(5), 0);
            due("fuel", x.count(5), 2);
            due("resume(1)", x.resume(1), PluginRunner.ENDED);
            due("result()", x.result(), value);
        }
        // Each question is answered for itself, the answer lying on the top.
        PluginRunner x = started("0 1 0: CONST 10, CONST 1, HOST 0, CONST 2, HOST 0, SUB, SUB");
        due("grant(0, true)", x.grant(0, true), PluginRunner.DONE);
        due("resume(200)", x.resume(200), PluginRunner.WAITING);
        due("reply(7)", x.reply(7), PluginRunner.DONE);
        due("resume(200)", x.resume(200), PluginRunner.WAITING);
        due("asked with", x.state(5), 2);
        due("reply(4)", x.reply(4), PluginRunner.DONE);
        due("resume(200)", x.resume(200), PluginRunner.ENDED);
        due("result()", x.result(), 10 - (7 - 4));
    }

    private void replyWithoutWaiting() {
        due("reply(1) of a new object", new PluginRunner().reply(1), PluginRunner.STATE);
        PluginRunner x = checked("0 1 0: CONST 7, HOST 0, HOST 1");
        due("grant(0, true)", x.grant(0, true), PluginRunner.DONE);
        due("reply(1), none started", x.reply(1), PluginRunner.STATE);
        due("start(0, 0, 0)", x.start(0, 0, 0), PluginRunner.DONE);
        due("reply(1), just started", x.reply(1), PluginRunner.STATE);
        due("resume(1)", x.resume(1), PluginRunner.NO_FUEL);
        due("reply(1), the HOST not begun", x.reply(1), PluginRunner.STATE);
        due("values", x.state(3), 1);
        due("resume(1)", x.resume(1), PluginRunner.WAITING);
        due("reply(1)", x.reply(1), PluginRunner.DONE);
        due("reply(1) again", x.reply(1), PluginRunner.STATE);
        due("values", x.state(3), 1);
        due("resume(1)", x.resume(1), PluginRunner.DENIED);
        due("reply(1), trapped", x.reply(1), PluginRunner.STATE);
        PluginRunner ended = waiting();
        due("reply(1)", ended.reply(1), PluginRunner.DONE);
        due("resume(1)", ended.resume(1), PluginRunner.ENDED);
        due("reply(1), ended", ended.reply(1), PluginRunner.STATE);
        PluginRunner gone = waiting();
        due("erase(0)", gone.erase(0), PluginRunner.DONE);
        due("reply(1), gone", gone.reply(1), PluginRunner.STATE);
    }

    private void grant() {
        for (int h = 0; h <= 3; h++) {
            PluginRunner x = checked("0 1 0: CONST 7, HOST " + h);
            boolean[] steps = {true, true, false, false, true};
            for (boolean on : steps) {
                due("grant(" + h + ", " + on + ")", x.grant(h, on), PluginRunner.DONE);
                runs(x, 0, 0, on ? PluginRunner.WAITING : PluginRunner.DENIED);
            }
            for (int other = 0; other <= 3; other++) {
                if (other != h) {
                    due("grant(" + other + ", false)", x.grant(other, false), PluginRunner.DONE);
                }
            }
            runs(x, 0, 0, PluginRunner.WAITING);
        }
        // A question that is asked already can be answered, and a grant outlives a change of code.
        PluginRunner asking = waiting();
        due("grant(0, false)", asking.grant(0, false), PluginRunner.DONE);
        due("host", asking.state(4), 0);
        due("reply(3)", asking.reply(3), PluginRunner.DONE);
        due("resume(1)", asking.resume(1), PluginRunner.ENDED);
        PluginRunner changed = waiting();
        due("function(0, 0, 0)", changed.function(0, 0, 0), 1);
        due("check()", changed.check(), PluginRunner.DONE);
        runs(changed, 0, 0, PluginRunner.WAITING);
    }

    private void grantRange() {
        PluginRunner x = waiting();
        String before = Kit.everything(x);
        for (int h : new int[] {-1, 4, LEAST, MOST}) {
            due("grant(" + h + ", true)", x.grant(h, true), PluginRunner.REFUSED);
            due("grant(" + h + ", false)", x.grant(h, false), PluginRunner.REFUSED);
        }
        holds("nothing changed", before.equals(Kit.everything(x)));
        runs(x, 0, 0, PluginRunner.WAITING);
        PluginRunner first = new PluginRunner();
        due("grant(0, true) of a new object", first.grant(0, true), PluginRunner.DONE);
        due("grant(3, false) of a new object", first.grant(3, false), PluginRunner.DONE);
    }

    private void result() {
        PluginRunner x = checked("1 1 0: CONST 12, GET 0, DIV");
        runs(x, 3, 0, PluginRunner.ENDED);
        due("result()", x.result(), 4);
        due("result() again", x.result(), 4);
        runs(x, -12, 0, PluginRunner.ENDED);
        due("result() of the latest", x.result(), -1);
        runs(x, 0, 0, PluginRunner.ARITHMETIC);
        due("result() after a trap", x.result(), -1);
        due("start(0, 6, 0)", x.start(0, 6, 0), PluginRunner.DONE);
        due("result() when another has begun", x.result(), -1);
        due("resume(2)", x.resume(2), PluginRunner.NO_FUEL);
        due("result() when another is under way", x.result(), -1);
        due("erase(0)", x.erase(0), PluginRunner.DONE);
        due("result() when that is gone", x.result(), -1);
        due("check() with a fault", x.check(), -1000);
        due("result() after a fault", x.result(), -1);
        for (int value : new int[] {LEAST, -1, 0, MOST}) {
            gives(value, value, 0, "1 1 0: GET 0");
        }
    }

    private void resultNone() {
        due("result() of a new object", new PluginRunner().result(), PluginRunner.NONE);
        PluginRunner x = checked("1 1 0: CONST 12, GET 0, DIV", "0 0 0: CONST 5, DROP");
        due("result() before a run", x.result(), PluginRunner.NONE);
        runs(x, 0, 0, PluginRunner.ARITHMETIC);
        due("result() after a trap alone", x.result(), PluginRunner.NONE);
        due("start(0, 1, 0)", x.start(0, 1, 0), PluginRunner.DONE);
        due("resume(2)", x.resume(2), PluginRunner.NO_FUEL);
        due("result() before the end", x.result(), PluginRunner.NONE);
        due("resume(1)", x.resume(1), PluginRunner.ENDED);
        due("result()", x.result(), 12);
        due("start(1, 0, 0)", x.start(1, 0, 0), PluginRunner.DONE);
        due("resume(1)", x.resume(1), PluginRunner.NO_FUEL);
        due("result() before the end of one that gives nothing", x.result(), 12);
        due("resume(1)", x.resume(1), PluginRunner.ENDED);
        due("result() of one that gave nothing", x.result(), PluginRunner.NONE);
        due("result() while one WAITS", waiting().result(), PluginRunner.NONE);
        // What a callee gave is nothing that the run gave.
        gives(PluginRunner.NONE, 0, 0, "0 0 0: CALL 1, DROP", "0 1 0: CONST 5");
    }
}
