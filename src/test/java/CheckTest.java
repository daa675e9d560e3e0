import java.util.Arrays;

/** Promises 5 and 6: check and fault, with each fault and their order. */
public final class CheckTest {
    private static final Kit KIT = new Kit("CheckTest");

    public static void main(String[] args) {
        arguments();
        tooFew();
        parts();
        heights();
        neverComeTo();
        theEndOfTheCode();
        order();
        wellMade();
        placeOfTheFault();
        latestFaultIsKept();
        KIT.close();
    }

    /** Checks a function that takes 1, gives so many and has 1 more local. */
    private static void faulty(int sort, int instruction, int gives, int... code) {
        PluginRunner x = Kit.one(1, gives, 1, code);
        String what = "code " + Arrays.toString(code);
        KIT.due("check() of " + what, x.check(), sort == 0 ? PluginRunner.DONE : -1000 - instruction);
        KIT.due("fault() of " + what, x.fault(), sort);
        KIT.due("count(6) of " + what, x.count(6), sort == 0 ? 1 : 0);
        KIT.due("start of " + what, x.start(0, 1, 1), sort == 0 ? PluginRunner.DONE : PluginRunner.STATE);
    }

    private static void arguments() {
        for (int wrong : new int[] {-1, 2, 5, Integer.MIN_VALUE, Integer.MAX_VALUE}) {
            faulty(1, 0, 0, Kit.GET, wrong);
            faulty(1, 1, 0, Kit.CONST, 1, Kit.SET, wrong);
            faulty(1, 1, 0, Kit.BLOCK, 0, Kit.BRANCH, wrong, Kit.END, 0);
            faulty(1, 2, 0, Kit.LOOP, 0, Kit.CONST, 1, Kit.BRANCH_IF, wrong, Kit.END, 0);
        }
        for (int wrong : new int[] {-1, 1, 4, Integer.MIN_VALUE, Integer.MAX_VALUE}) {
            faulty(1, 0, 0, Kit.CALL, wrong);
            faulty(1, 0, 0, Kit.BRANCH, wrong);
        }
        for (int wrong : new int[] {-1, 4, Integer.MIN_VALUE, Integer.MAX_VALUE}) {
            faulty(1, 1, 1, Kit.CONST, 1, Kit.HOST, wrong);
        }
        for (int wrong : new int[] {-1, 32, Integer.MIN_VALUE, Integer.MAX_VALUE}) {
            faulty(1, 1, 1, Kit.CONST, 1, Kit.LOAD, wrong);
            faulty(1, 2, 0, Kit.CONST, 1, Kit.CONST, 1, Kit.STORE, wrong);
        }
        for (int right : new int[] {0, 1}) {
            faulty(0, 0, 0, Kit.GET, right, Kit.SET, right);
            faulty(0, 0, 0, Kit.BLOCK, 0, Kit.BRANCH, right, Kit.END, 0);
            faulty(0, 0, 0, Kit.BLOCK, 0, Kit.CONST, 1, Kit.BRANCH_IF, right, Kit.END, 0);
        }
        for (int right : new int[] {0, 3}) {
            faulty(0, 0, 1, Kit.CONST, 1, Kit.HOST, right);
        }
        for (int right : new int[] {0, 31}) {
            faulty(0, 0, 1, Kit.CONST, 1, Kit.LOAD, right);
            faulty(0, 0, 0, Kit.CONST, 1, Kit.CONST, 1, Kit.STORE, right);
        }
        // The argument of the other ops is any.
        faulty(0, 0, 0, Kit.BLOCK, -7, Kit.LOOP, 99, Kit.END, -7, Kit.END, 99, Kit.CONST, -9, Kit.CONST, 4, Kit.ADD, -5,
                Kit.DROP, -3, Kit.RETURN, 77);
        KIT.due("a function without locals", Kit.one(0, 0, 0, Kit.GET, 0).check(), -1000);
        KIT.due("a function with 5 locals", Kit.one(2, 1, 3, Kit.GET, 4).check(), PluginRunner.DONE);
    }

    private static void tooFew() {
        for (int op : new int[] {Kit.SET, Kit.DROP, Kit.LOAD, Kit.BRANCH_IF, Kit.CALL, Kit.HOST}) {
            faulty(2, 0, 0, op, 0);
            faulty(2, 2, 0, Kit.CONST, 1, Kit.BLOCK, 0, op, 0, Kit.END, 0);
            faulty(2, 2, 0, Kit.CONST, 1, Kit.LOOP, 0, op, 0, Kit.END, 0);
        }
        for (int op : new int[] {Kit.ADD, Kit.SUB, Kit.MUL, Kit.DIV, Kit.LESS, Kit.EQUAL, Kit.STORE}) {
            faulty(2, 0, 0, op, 0);
            faulty(2, 1, 0, Kit.CONST, 1, op, 0);
            faulty(2, 3, 0, Kit.CONST, 1, Kit.BLOCK, 0, Kit.CONST, 1, op, 0, Kit.END, 0);
        }
        // The function's own stack alone counts: what it takes lies in its locals.
        faulty(2, 0, 0, Kit.DROP, 0);
    }

    private static void parts() {
        faulty(3, 0, 0, Kit.END, 0);
        faulty(3, 2, 0, Kit.BLOCK, 0, Kit.END, 0, Kit.END, 0);
        faulty(3, 1, 0, Kit.RETURN, 0, Kit.END, 0);
        faulty(3, 2, 0, Kit.BLOCK, 0, Kit.CONST, 1, Kit.END, 0);
        faulty(3, 2, 0, Kit.LOOP, 0, Kit.CONST, 1, Kit.END, 0);
        faulty(3, 4, 0, Kit.CONST, 1, Kit.BLOCK, 0, Kit.BLOCK, 0, Kit.CONST, 1, Kit.END, 0);
    }

    private static void heights() {
        faulty(4, 2, 0, Kit.BLOCK, 0, Kit.CONST, 1, Kit.BRANCH, 0, Kit.END, 0);
        faulty(4, 3, 0, Kit.LOOP, 0, Kit.CONST, 1, Kit.CONST, 1, Kit.BRANCH_IF, 0, Kit.DROP, 0, Kit.END, 0);
        faulty(4, 3, 1, Kit.BLOCK, 0, Kit.CONST, 1, Kit.LOOP, 0, Kit.BRANCH, 1, Kit.END, 0, Kit.DROP, 0, Kit.END, 0);
        faulty(4, 0, 1, Kit.BRANCH, 0);
        faulty(4, 1, 0, Kit.CONST, 1, Kit.BRANCH, 0);
        faulty(4, 0, 1, Kit.RETURN, 0);
        faulty(4, 1, 0, Kit.CONST, 1, Kit.RETURN, 0);
        faulty(4, 2, 1, Kit.CONST, 1, Kit.CONST, 1, Kit.RETURN, 0);
        faulty(4, 1, 1, Kit.CONST, 1, Kit.BRANCH_IF, 0);
        faulty(4, 1, 1, Kit.BLOCK, 0, Kit.RETURN, 0, Kit.END, 0);
        faulty(4, 1, 1, Kit.BLOCK, 0, Kit.BRANCH, 1, Kit.END, 0);
        // The height of the function counts, not that above the base.
        faulty(0, 0, 1, Kit.CONST, 1, Kit.BLOCK, 0, Kit.BRANCH, 0, Kit.END, 0);
        faulty(0, 0, 1, Kit.CONST, 1, Kit.BLOCK, 0, Kit.RETURN, 0, Kit.END, 0);
        faulty(0, 0, 1, Kit.CONST, 1, Kit.BLOCK, 0, Kit.BRANCH, 1, Kit.END, 0);
        faulty(4, 3, 1, Kit.CONST, 1, Kit.BLOCK, 0, Kit.CONST, 2, Kit.RETURN, 0, Kit.END, 0);
    }

    private static void neverComeTo() {
        for (int op = 0; op <= 19; op++) {
            if (op != Kit.END) {
                faulty(5, 1, 0, Kit.RETURN, 0, op, 0);
                faulty(5, 2, 0, Kit.BLOCK, 0, Kit.BRANCH, 0, op, 0, Kit.END, 0);
            }
        }
        // Behind BRANCH IF, and behind the END that follows a BRANCH, code is come to.
        faulty(0, 0, 0, Kit.CONST, 1, Kit.BRANCH_IF, 0, Kit.GET, 0, Kit.DROP, 0);
        faulty(0, 0, 0, Kit.BLOCK, 0, Kit.BRANCH, 0, Kit.END, 0, Kit.GET, 0, Kit.DROP, 0);
    }

    private static void theEndOfTheCode() {
        faulty(0, 0, 0);
        faulty(4, 0, 1);
        faulty(4, 1, 0, Kit.CONST, 1);
        faulty(4, 2, 1, Kit.CONST, 1, Kit.CONST, 1);
        faulty(3, 1, 0, Kit.BLOCK, 0);
        faulty(3, 2, 0, Kit.BLOCK, 0, Kit.CONST, 1);
        faulty(3, 2, 0, Kit.BLOCK, 0, Kit.BRANCH, 0);
        faulty(3, 2, 0, Kit.LOOP, 0, Kit.RETURN, 0);
        faulty(0, 0, 1, Kit.CONST, 1, Kit.RETURN, 0);
        faulty(0, 0, 1, Kit.CONST, 1, Kit.BRANCH, 0);
        // The last instruction is an END here, so its base is looked at.
        faulty(4, 3, 1, Kit.LOOP, 0, Kit.BRANCH, 0, Kit.END, 0);
        faulty(4, 4, 1, Kit.BLOCK, 0, Kit.CONST, 1, Kit.RETURN, 0, Kit.END, 0);
        int[] parts = new int[48];
        for (int i = 0; i < 48; i += 2) {
            parts[i] = Kit.BLOCK;
        }
        faulty(3, 24, 0, parts);
    }

    private static void order() {
        faulty(5, 1, 0, Kit.RETURN, 0, Kit.GET, 9);
        faulty(5, 1, 0, Kit.RETURN, 0, Kit.ADD, 0);
        faulty(5, 1, 0, Kit.RETURN, 0, Kit.BRANCH, 9);
        faulty(1, 0, 0, Kit.SET, 9);
        faulty(1, 0, 0, Kit.HOST, 4);
        faulty(1, 0, 0, Kit.CALL, 1);
        faulty(1, 0, 1, Kit.BRANCH, 1);
        faulty(2, 0, 1, Kit.BRANCH_IF, 0);
        // An earlier instruction's fault comes before a later one's of any sort.
        faulty(4, 1, 0, Kit.CONST, 1, Kit.RETURN, 0, Kit.GET, 9);
        faulty(3, 0, 0, Kit.END, 0, Kit.GET, 9);
    }

    private static void wellMade() {
        int[] parts = new int[48];
        for (int i = 0; i < 48; i += 2) {
            parts[i] = i < 24 ? Kit.LOOP : Kit.END;
        }
        faulty(0, 0, 0, parts);
        int[] values = new int[48];
        for (int i = 0; i < 48; i += 2) {
            values[i] = i < 24 ? Kit.CONST : Kit.DROP;
        }
        faulty(0, 0, 0, values);
        faulty(0, 0, 1, Kit.CONST, 5, Kit.BLOCK, 0, Kit.GET, 0, Kit.BRANCH_IF, 0, Kit.CONST, 2, Kit.SET, 0, Kit.END, 0);
    }

    private static void placeOfTheFault() {
        PluginRunner x = new PluginRunner();
        x.function(2, 1, 0);
        x.function(0, 0, 0);
        x.function(0, 0, 0);
        x.function(1, 0, 0);
        Kit.write(x, 0, Kit.GET, 0, Kit.GET, 1, Kit.ADD, 0);
        Kit.write(x, 1, Kit.CONST, 1, Kit.CONST, 2, Kit.CALL, 0, Kit.CALL, 3);
        Kit.write(x, 3, Kit.BLOCK, 0, Kit.END, 0, Kit.GET, 1);
        KIT.due("check()", x.check(), -1302);
        KIT.due("fault()", x.fault(), 1);
        x.erase(3);
        KIT.due("check() of a CALL that fits", x.check(), PluginRunner.DONE);
        Kit.write(x, 2, Kit.CONST, 1, Kit.CALL, 0);
        KIT.due("check() of a CALL with too few", x.check(), -1201);
        KIT.due("fault() of a CALL with too few", x.fault(), 2);
        x.erase(2);
        Kit.write(x, 2, Kit.CONST, 1, Kit.CALL, 3, Kit.DROP, 0);
        KIT.due("check() of a CALL that gives nothing", x.check(), -1202);
        x.erase(0);
        KIT.due("check() where two are faulty", x.check(), -1000);
        KIT.due("fault() where two are faulty", x.fault(), 4);
    }

    private static void latestFaultIsKept() {
        PluginRunner x = Kit.one(0, 0, 0, Kit.END, 0);
        KIT.due("fault() before a check", x.fault(), 0);
        KIT.due("check()", x.check(), -1000);
        x.erase(0);
        KIT.due("fault() after erase", x.fault(), 3);
        KIT.due("check()", x.check(), PluginRunner.DONE);
        KIT.due("fault()", x.fault(), 0);
        x.emit(0, Kit.END, 0);
        KIT.due("fault() after emit", x.fault(), 0);
        x.erase(0);
        x.check();
        x.start(0, 0, 0);
        KIT.due("check() again", x.check(), PluginRunner.DONE);
        KIT.due("state(0): a check leaves the run", x.state(0), 1);
    }
}
