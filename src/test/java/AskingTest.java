/** Promises 12 to 15: memory, poke, state and count. */
public final class AskingTest {
    private static final Kit KIT = new Kit("AskingTest");

    public static void main(String[] args) {
        memoryAndPokeRange();
        memoryOutlivesRuns();
        pokeWhileARunIsUnderWay();
        stateOfCalls();
        stateRange();
        countRange();
        countOfRuns();
        askingChangesNothing();
        KIT.close();
    }

    private static void memoryAndPokeRange() {
        PluginRunner x = new PluginRunner();
        for (int i : new int[] {-1, 32, Integer.MIN_VALUE, Integer.MAX_VALUE}) {
            KIT.due("memory(" + i + ")", x.memory(i), PluginRunner.NONE);
            KIT.due("poke(" + i + ", 1)", x.poke(i, 1), PluginRunner.REFUSED);
        }
        for (int i = 0; i < 32; i++) {
            KIT.due("poke(" + i + ")", x.poke(i, i * i - 5), PluginRunner.DONE);
        }
        for (int i = 0; i < 32; i++) {
            KIT.due("memory(" + i + ")", x.memory(i), i * i - 5);
        }
        x.poke(0, Integer.MIN_VALUE);
        x.poke(31, Integer.MAX_VALUE);
        KIT.due("memory(0)", x.memory(0), Integer.MIN_VALUE);
        KIT.due("memory(31)", x.memory(31), Integer.MAX_VALUE);
    }

    private static void memoryOutlivesRuns() {
        // Adds 1 to the cell 0.
        PluginRunner x = KIT.started(0, 0, 0, 0, 0, Kit.CONST, 0, Kit.CONST, 0, Kit.LOAD, 0, Kit.CONST, 1, Kit.ADD, 0,
                Kit.STORE, 0);
        x.resume(9);
        x.start(0, 0, 0);
        x.resume(9);
        KIT.due("memory(0) after two runs", x.memory(0), 2);
        x.erase(0);
        x.function(0, 0, 0);
        KIT.due("memory(0) after erase and function", x.memory(0), 2);
        KIT.due("memory of another object", new PluginRunner().memory(0), 0);
    }

    private static void pokeWhileARunIsUnderWay() {
        PluginRunner x = KIT.started(0, 1, 0, 0, 0, Kit.CONST, 7, Kit.LOAD, 0);
        x.resume(1);
        KIT.due("poke(7, 70)", x.poke(7, 70), PluginRunner.DONE);
        KIT.due("state(0)", x.state(0), 1);
        KIT.due("count(6)", x.count(6), 1);
        KIT.due("resume(1)", x.resume(1), PluginRunner.ENDED);
        KIT.due("result()", x.result(), 70);
    }

    private static void stateOfCalls() {
        PluginRunner x = new PluginRunner();
        x.function(0, 1, 0);
        x.function(1, 1, 0);
        Kit.write(x, 0, Kit.CONST, 1, Kit.CONST, 2, Kit.CALL, 1, Kit.ADD, 0);
        Kit.write(x, 1, Kit.GET, 0, Kit.GET, 0, Kit.MUL, 0);
        x.check();
        x.start(0, 0, 0);
        // Functions, the innermost, its next instruction, and values: at first and after each instruction.
        int[][] due = {{1, 0, 0, 0}, {1, 0, 1, 1}, {1, 0, 2, 2}, {2, 1, 0, 1}, {2, 1, 1, 2}, {2, 1, 2, 3}, {1, 0, 3, 2}};
        for (int step = 0; step < due.length; step++) {
            for (int what = 0; what < 4; what++) {
                KIT.due("state(" + what + ") after " + step, x.state(what), due[step][what]);
            }
            KIT.due("state(4)", x.state(4), -1);
            KIT.due("state(5)", x.state(5), 0);
            KIT.due("resume(1)", x.resume(1), step == due.length - 1 ? PluginRunner.ENDED : PluginRunner.NO_FUEL);
        }
        KIT.due("result()", x.result(), 5);
        for (int what = 0; what <= 5; what++) {
            KIT.due("state(" + what + ") after the end", x.state(what), -1);
        }
    }

    private static void stateRange() {
        PluginRunner x = KIT.started(0, 0, 0, 0, 0);
        for (int what : new int[] {-1, 6, Integer.MIN_VALUE, Integer.MAX_VALUE}) {
            KIT.due("state(" + what + ")", x.state(what), PluginRunner.REFUSED);
        }
    }

    private static void countRange() {
        PluginRunner x = Kit.one(0, 0, 0, Kit.BLOCK, 0, Kit.END, 0);
        x.function(0, 0, 0);
        for (int what : new int[] {-1, 9, Integer.MIN_VALUE, Integer.MAX_VALUE}) {
            KIT.due("count(" + what + ")", x.count(what), PluginRunner.REFUSED);
        }
        int[] due = {2, 2, 0, 0, 0, 0, 0, 0, 0};
        for (int what = 0; what < due.length; what++) {
            KIT.due("count(" + what + ")", x.count(what), due[what]);
        }
        x.function(0, 0, 0);
        x.function(0, 0, 0);
        Kit.write(x, 1, Kit.RETURN, 0);
        Kit.write(x, 2, Kit.BLOCK, 0, Kit.BRANCH, 0, Kit.END, 0);
        Kit.write(x, 3, Kit.BLOCK, 0, Kit.BLOCK, 0, Kit.END, 0, Kit.END, 0);
        for (int f = 0; f < 4; f++) {
            KIT.due("count(" + (f + 1) + ")", x.count(f + 1), new int[] {2, 1, 3, 4}[f]);
        }
        KIT.due("count(6) before the check", x.count(6), 0);
        KIT.due("check()", x.check(), PluginRunner.DONE);
        KIT.due("count(6) after the check", x.count(6), 1);
        x.emit(0, Kit.END, 0);
        KIT.due("count(6) after emit", x.count(6), 0);
        x.check();
        KIT.due("count(6) after a fault", x.count(6), 0);
    }

    private static void countOfRuns() {
        PluginRunner x = KIT.started(2, 1, 0, 8, 2, Kit.GET, 0, Kit.GET, 1, Kit.DIV, 0);
        x.resume(9);
        x.start(0, 8, 0);
        x.resume(9);
        x.start(0, 8, 1);
        x.resume(2);
        x.start(0, 8, 1);
        x.resume(9);
        KIT.due("fuel used in all runs", x.count(5), 3 + 3 + 2 + 3);
        KIT.due("runs ended", x.count(7), 2);
        KIT.due("runs trapped", x.count(8), 1);
        x.erase(0);
        x.function(0, 0, 0);
        KIT.due("fuel used in all runs", x.count(5), 11);
        KIT.due("runs ended", x.count(7), 2);
        KIT.due("runs trapped", x.count(8), 1);
    }

    private static void askingChangesNothing() {
        PluginRunner x = KIT.started(0, 1, 0, 0, 0, Kit.CONST, 1, Kit.CONST, 2, Kit.ADD, 0);
        x.resume(2);
        String before = Kit.everything(x);
        KIT.holds("asked twice", before.equals(Kit.everything(x)));
        KIT.due("resume(1)", x.resume(1), PluginRunner.ENDED);
    }
}
