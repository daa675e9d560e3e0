/** Promises 7, 8 and 11: start, resume and result, with the fuel's edges. */
public final class RunTest {
    private static final Kit KIT = new Kit("RunTest");

    public static void main(String[] args) {
        startRefusals();
        startTakesThePlaceOfARun();
        fuelRange();
        lastFuel();
        emptyFunctionEndsInResumeAlone();
        endsCostNothing();
        goesOnAfterNoFuel();
        resultOfTheLatestEndedRun();
        KIT.close();
    }

    private static void startRefusals() {
        PluginRunner x = Kit.one(1, 1, 0, Kit.GET, 0);
        KIT.due("start unchecked", x.start(0, 1, 2), PluginRunner.STATE);
        KIT.due("start of none, unchecked", x.start(7, 1, 2), PluginRunner.STATE);
        x.check();
        for (int f : new int[] {-1, 1, 4, Integer.MIN_VALUE, Integer.MAX_VALUE}) {
            KIT.due("start(" + f + ", 1, 2)", x.start(f, 1, 2), PluginRunner.REFUSED);
        }
        KIT.due("state(0)", x.state(0), -1);
        KIT.due("resume(1) with nothing started", x.resume(1), PluginRunner.STATE);
        KIT.due("start(0, 1, 2)", x.start(0, 1, 2), PluginRunner.DONE);
        KIT.due("start(1, 1, 2)", x.start(1, 1, 2), PluginRunner.REFUSED);
        KIT.due("a refused start leaves the run", x.resume(1), PluginRunner.ENDED);
        KIT.due("result()", x.result(), 1);
        KIT.due("resume(1) after the end", x.resume(1), PluginRunner.STATE);
    }

    private static void startTakesThePlaceOfARun() {
        PluginRunner x = KIT.started(1, 1, 0, 5, 0, Kit.GET, 0, Kit.HOST, 0, Kit.GET, 0, Kit.ADD, 0);
        x.grant(0, true);
        KIT.due("resume(1)", x.resume(1), PluginRunner.NO_FUEL);
        KIT.due("start in its place", x.start(0, 6, 0), PluginRunner.DONE);
        KIT.due("values", x.state(3), 0);
        KIT.due("next", x.state(2), 0);
        KIT.due("resume(9)", x.resume(9), PluginRunner.WAITING);
        KIT.due("start in place of one that waits", x.start(0, 7, 0), PluginRunner.DONE);
        KIT.due("state(4)", x.state(4), -1);
        KIT.due("state(5)", x.state(5), 0);
        KIT.due("reply(1)", x.reply(1), PluginRunner.STATE);
        KIT.due("resume(9)", x.resume(9), PluginRunner.WAITING);
        KIT.due("state(5)", x.state(5), 7);
        x.reply(1);
        KIT.due("resume(9)", x.resume(9), PluginRunner.ENDED);
        KIT.due("result()", x.result(), 8);
        KIT.due("runs ended", x.count(7), 1);
        KIT.due("runs trapped", x.count(8), 0);
        KIT.due("fuel of all runs", x.count(5), 1 + 2 + 4);
    }

    private static void fuelRange() {
        PluginRunner x = KIT.started(0, 0, 0, 0, 0, Kit.LOOP, 0, Kit.BRANCH, 0, Kit.END, 0);
        for (int fuel : new int[] {0, -1, 201, Integer.MIN_VALUE, Integer.MAX_VALUE}) {
            KIT.due("resume(" + fuel + ")", x.resume(fuel), PluginRunner.REFUSED);
        }
        KIT.due("fuel used", x.count(5), 0);
        KIT.due("resume(1)", x.resume(1), PluginRunner.NO_FUEL);
        KIT.due("resume(200)", x.resume(200), PluginRunner.NO_FUEL);
        KIT.due("fuel used", x.count(5), 201);
        KIT.due("resume(0) without a run", new PluginRunner().resume(0), PluginRunner.REFUSED);
        KIT.due("resume(201) without a run", new PluginRunner().resume(201), PluginRunner.REFUSED);
    }

    private static void lastFuel() {
        int[] code = {Kit.CONST, 1, Kit.CONST, 2, Kit.ADD, 0};
        PluginRunner x = KIT.started(0, 1, 0, 0, 0, code);
        KIT.due("resume(3)", x.resume(3), PluginRunner.ENDED);
        KIT.due("result()", x.result(), 3);
        x.start(0, 0, 0);
        KIT.due("resume(2)", x.resume(2), PluginRunner.NO_FUEL);
        KIT.due("next", x.state(2), 2);
        KIT.due("values", x.state(3), 2);
        KIT.due("resume(1)", x.resume(1), PluginRunner.ENDED);
        PluginRunner returning = KIT.started(0, 0, 0, 0, 0, Kit.RETURN, 0);
        KIT.due("resume(1) of a RETURN", returning.resume(1), PluginRunner.ENDED);
        KIT.due("a RETURN costs one", returning.count(5), 1);
        PluginRunner branching = KIT.started(0, 0, 0, 0, 0, Kit.BRANCH, 0);
        KIT.due("resume(1) of a BRANCH to the end", branching.resume(1), PluginRunner.ENDED);
        KIT.due("a BRANCH costs one", branching.count(5), 1);
        PluginRunner trapping = KIT.started(0, 1, 0, 0, 0, Kit.CONST, 0, Kit.CONST, 0, Kit.DIV, 0);
        KIT.due("resume(3) with a trap", trapping.resume(3), PluginRunner.ARITHMETIC);
        KIT.due("what traps costs one", trapping.count(5), 3);
    }

    private static void emptyFunctionEndsInResumeAlone() {
        PluginRunner x = KIT.started(0, 0, 0, 0, 0);
        KIT.due("functions under way", x.state(0), 1);
        KIT.due("next", x.state(2), 0);
        KIT.due("runs ended", x.count(7), 0);
        KIT.due("resume(1)", x.resume(1), PluginRunner.ENDED);
        KIT.due("fuel used", x.count(5), 0);
        KIT.due("runs ended", x.count(7), 1);
        KIT.due("result()", x.result(), PluginRunner.NONE);
        KIT.due("state(0)", x.state(0), -1);
    }

    private static void endsCostNothing() {
        PluginRunner x = new PluginRunner();
        x.function(0, 0, 0);
        x.function(0, 0, 0);
        x.function(0, 0, 0);
        Kit.write(x, 0, Kit.CALL, 1, Kit.BLOCK, 0, Kit.END, 0);
        Kit.write(x, 1, Kit.CALL, 2);
        x.check();
        x.start(0, 0, 0);
        KIT.due("resume(1)", x.resume(1), PluginRunner.NO_FUEL);
        KIT.due("functions under way", x.state(0), 2);
        KIT.due("innermost", x.state(1), 1);
        KIT.due("resume(1): a call of nothing, and two ends", x.resume(1), PluginRunner.NO_FUEL);
        KIT.due("functions under way", x.state(0), 1);
        KIT.due("innermost", x.state(1), 0);
        KIT.due("next", x.state(2), 1);
        KIT.due("resume(2)", x.resume(2), PluginRunner.ENDED);
        KIT.due("fuel used", x.count(5), 4);
    }

    private static void goesOnAfterNoFuel() {
        int[] code = {Kit.LOOP, 0, Kit.GET, 1, Kit.GET, 0, Kit.ADD, 0, Kit.SET, 1, Kit.GET, 0, Kit.CONST, 1, Kit.SUB, 0,
            Kit.SET, 0, Kit.GET, 0, Kit.BRANCH_IF, 0, Kit.END, 0, Kit.GET, 1};
        PluginRunner x = KIT.started(2, 1, 0, 10, 0, code);
        int steps = 1;
        int outcome = x.resume(1);
        while (outcome == PluginRunner.NO_FUEL && steps < 300) {
            outcome = x.resume(1);
            steps++;
        }
        KIT.due("the last resume", outcome, PluginRunner.ENDED);
        KIT.due("resumes of one fuel", steps, 1 + 10 * 10 + 2);
        KIT.due("result()", x.result(), 55);
    }

    private static void resultOfTheLatestEndedRun() {
        PluginRunner x = new PluginRunner();
        x.function(1, 1, 0);
        x.function(0, 0, 0);
        Kit.write(x, 0, Kit.CONST, 12, Kit.GET, 0, Kit.DIV, 0);
        x.check();
        x.start(0, -3, 0);
        KIT.due("result() before the end", x.result(), PluginRunner.NONE);
        KIT.due("resume(9)", x.resume(9), PluginRunner.ENDED);
        KIT.due("result()", x.result(), -4);
        x.start(0, 0, 0);
        KIT.due("result() while another runs", x.result(), -4);
        KIT.due("resume(9)", x.resume(9), PluginRunner.ARITHMETIC);
        KIT.due("result() after a trap", x.result(), -4);
        x.start(1, 0, 0);
        KIT.due("resume(9)", x.resume(9), PluginRunner.ENDED);
        KIT.due("result() of one that gives nothing", x.result(), PluginRunner.NONE);
        x.start(0, 4, 0);
        x.resume(9);
        x.erase(0);
        KIT.due("result() after erase", x.result(), 3);
    }
}
