/** Promises 1 to 4: a new object, function, emit, erase. */
public final class WritingTest {
    private static final Kit KIT = new Kit("WritingTest");

    public static void main(String[] args) {
        newObject();
        nothingGrantedAtFirst();
        functionNumbersAndRefusals();
        emitNumbersAndRefusals();
        eraseEmpties();
        changesNeedANewCheckAndEndTheRun();
        refusedChangesChangeNothing();
        KIT.close();
    }

    private static void newObject() {
        PluginRunner x = new PluginRunner();
        for (int what = 0; what <= 8; what++) {
            KIT.due("count(" + what + ") of a new object", x.count(what), 0);
        }
        for (int what = 0; what <= 5; what++) {
            KIT.due("state(" + what + ") of a new object", x.state(what), -1);
        }
        for (int i = 0; i < 32; i++) {
            KIT.due("memory(" + i + ") of a new object", x.memory(i), 0);
        }
        KIT.due("result() of a new object", x.result(), PluginRunner.NONE);
        KIT.due("fault() of a new object", x.fault(), 0);
        KIT.due("check() of a new object", x.check(), PluginRunner.STATE);
        KIT.due("start() of a new object", x.start(0, 0, 0), PluginRunner.STATE);
        KIT.due("resume() of a new object", x.resume(1), PluginRunner.STATE);
        KIT.due("reply() of a new object", x.reply(1), PluginRunner.STATE);
    }

    private static void nothingGrantedAtFirst() {
        for (int host = 0; host < 4; host++) {
            PluginRunner x = KIT.started(0, 1, 0, 0, 0, Kit.CONST, 1, Kit.HOST, host);
            KIT.due("resume(9) to host " + host, x.resume(9), PluginRunner.DENIED);
        }
    }

    private static void functionNumbersAndRefusals() {
        PluginRunner x = new PluginRunner();
        int[][] refused = {{-1, 0, 0}, {3, 0, 0}, {0, -1, 0}, {0, 2, 0}, {0, 0, -1}, {0, 0, 4},
            {Integer.MIN_VALUE, 0, 0}, {0, Integer.MAX_VALUE, 0}, {0, 0, Integer.MIN_VALUE}};
        for (int[] wrong : refused) {
            KIT.due("function out of range", x.function(wrong[0], wrong[1], wrong[2]), PluginRunner.REFUSED);
        }
        KIT.due("count(0)", x.count(0), 0);
        KIT.due("function(0, 0, 0)", x.function(0, 0, 0), 0);
        KIT.due("function(2, 1, 3)", x.function(2, 1, 3), 1);
        KIT.due("function(1, 0, 2)", x.function(1, 0, 2), 2);
        KIT.due("function(0, 1, 1)", x.function(0, 1, 1), 3);
        KIT.due("a fifth function", x.function(0, 0, 0), PluginRunner.FULL);
        KIT.due("a fifth function out of range", x.function(3, 0, 0), PluginRunner.REFUSED);
        KIT.due("count(0)", x.count(0), 4);
        KIT.due("instructions of a new function", x.count(4), 0);
    }

    private static void emitNumbersAndRefusals() {
        PluginRunner x = new PluginRunner();
        KIT.due("emit without a function", x.emit(0, 0, 0), PluginRunner.REFUSED);
        x.function(0, 0, 0);
        x.function(0, 0, 0);
        for (int f : new int[] {-1, 2, 3, 4, Integer.MIN_VALUE, Integer.MAX_VALUE}) {
            KIT.due("emit(" + f + ", 0, 0)", x.emit(f, 0, 0), PluginRunner.REFUSED);
        }
        for (int op : new int[] {-1, 20, Integer.MIN_VALUE, Integer.MAX_VALUE}) {
            KIT.due("emit(0, " + op + ", 0)", x.emit(0, op, 0), PluginRunner.REFUSED);
        }
        for (int op = 0; op <= 19; op++) {
            KIT.due("emit(0, " + op + ", any)", x.emit(0, op, op % 2 == 0 ? Integer.MIN_VALUE : Integer.MAX_VALUE), op);
        }
        for (int number = 20; number < 24; number++) {
            KIT.due("emit(0, 0, 0)", x.emit(0, 0, 0), number);
        }
        KIT.due("emit where 24 are", x.emit(0, 0, 0), PluginRunner.FULL);
        KIT.due("emit of no op where 24 are", x.emit(0, 20, 0), PluginRunner.REFUSED);
        KIT.due("count(1)", x.count(1), 24);
        KIT.due("emit to the other function", x.emit(1, 0, 0), 0);
        KIT.due("count(2)", x.count(2), 1);
    }

    private static void eraseEmpties() {
        PluginRunner x = new PluginRunner();
        KIT.due("erase without a function", x.erase(0), PluginRunner.REFUSED);
        x.function(0, 1, 0);
        x.function(0, 1, 0);
        Kit.write(x, 0, Kit.CONST, 1);
        Kit.write(x, 1, Kit.CONST, 2);
        KIT.due("erase(-1)", x.erase(-1), PluginRunner.REFUSED);
        KIT.due("erase(2)", x.erase(2), PluginRunner.REFUSED);
        KIT.due("erase(0)", x.erase(0), PluginRunner.DONE);
        KIT.due("count(1)", x.count(1), 0);
        KIT.due("count(2)", x.count(2), 1);
        KIT.due("emit after erase", x.emit(0, Kit.CONST, 5), 0);
        KIT.due("check()", x.check(), PluginRunner.DONE);
        x.start(0, 0, 0);
        KIT.due("resume(1)", x.resume(1), PluginRunner.ENDED);
        KIT.due("result()", x.result(), 5);
    }

    private static void changesNeedANewCheckAndEndTheRun() {
        for (int change = 0; change < 3; change++) {
            PluginRunner x = waiting();
            KIT.due("count(6)", x.count(6), 1);
            KIT.due("state(0)", x.state(0), 1);
            int done = change == 0 ? x.function(0, 0, 0) : change == 1 ? x.emit(0, Kit.DROP, 0) : x.erase(0);
            KIT.holds("change " + change, done >= 0);
            KIT.due("count(6) after change " + change, x.count(6), 0);
            KIT.due("state(0) after change " + change, x.state(0), -1);
            KIT.due("state(4) after change " + change, x.state(4), -1);
            KIT.due("reply after change " + change, x.reply(1), PluginRunner.STATE);
            KIT.due("resume after change " + change, x.resume(1), PluginRunner.STATE);
            KIT.due("start after change " + change, x.start(0, 0, 0), PluginRunner.STATE);
            KIT.due("count(7) after change " + change, x.count(7), 0);
            KIT.due("count(8) after change " + change, x.count(8), 0);
            KIT.due("count(5) after change " + change, x.count(5), 2);
        }
    }

    private static void refusedChangesChangeNothing() {
        PluginRunner x = waiting();
        x.function(0, 0, 0);
        x.function(0, 0, 0);
        x.function(0, 0, 0);
        for (int i = 0; i < 12; i++) {
            Kit.write(x, 3, Kit.BLOCK, 0, Kit.END, 0);
        }
        x.check();
        x.start(0, 0, 0);
        x.resume(2);
        String before = Kit.everything(x);
        KIT.due("function(3, 0, 0)", x.function(3, 0, 0), PluginRunner.REFUSED);
        KIT.due("function(0, 0, 0)", x.function(0, 0, 0), PluginRunner.FULL);
        KIT.due("emit(4, 0, 0)", x.emit(4, 0, 0), PluginRunner.REFUSED);
        KIT.due("emit(0, 20, 0)", x.emit(0, 20, 0), PluginRunner.REFUSED);
        KIT.due("emit(3, 0, 0)", x.emit(3, 0, 0), PluginRunner.FULL);
        KIT.due("erase(4)", x.erase(4), PluginRunner.REFUSED);
        KIT.holds("nothing changed", before.equals(Kit.everything(x)));
        KIT.due("reply(8)", x.reply(8), PluginRunner.DONE);
        KIT.due("resume(1)", x.resume(1), PluginRunner.ENDED);
        KIT.due("result()", x.result(), 8);
    }

    private static PluginRunner waiting() {
        PluginRunner x = KIT.started(0, 1, 0, 0, 0, Kit.CONST, 1, Kit.HOST, 0);
        x.grant(0, true);
        KIT.due("resume(9)", x.resume(9), PluginRunner.WAITING);
        return x;
    }
}
