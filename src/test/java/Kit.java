/** What the tests share: the ops by name, a way to write code down, and the count of wrong answers. */
final class Kit {
    static final int CONST = 0;
    static final int GET = 1;
    static final int SET = 2;
    static final int ADD = 3;
    static final int SUB = 4;
    static final int MUL = 5;
    static final int DIV = 6;
    static final int LESS = 7;
    static final int EQUAL = 8;
    static final int DROP = 9;
    static final int LOAD = 10;
    static final int STORE = 11;
    static final int BLOCK = 12;
    static final int LOOP = 13;
    static final int END = 14;
    static final int BRANCH = 15;
    static final int BRANCH_IF = 16;
    static final int CALL = 17;
    static final int HOST = 18;
    static final int RETURN = 19;

    private static final long MOST_MILLISECONDS = 300_000;

    private final String test;
    // Read by the watch too.
    private volatile String about = "";
    private int right = 0;
    private int wrong = 0;

    Kit(String test) {
        this.test = test;
        Thread watch = new Thread(this::failWhenLate);
        watch.setDaemon(true);
        watch.start();
    }

    /** A call that doesn't end must fail the test, not hold it up for ever. */
    private void failWhenLate() {
        try {
            Thread.sleep(MOST_MILLISECONDS);
        } catch (InterruptedException nobodyAsksForThis) {
            return;
        }
        System.out.println(test + ": " + about + "not at its end after " + MOST_MILLISECONDS + " milliseconds");
        Runtime.getRuntime().halt(1);
    }

    void due(String call, long got, long want) {
        if (got == want) {
            right++;
        } else {
            wrong++;
            System.out.println(test + ": " + about + call + " answered " + got + ", due is " + want);
        }
    }

    /** What the next answers are about, told with each wrong one. */
    void about(String what) {
        about = what.isEmpty() ? "" : what + ": ";
    }

    int compared() {
        return right + wrong;
    }

    /** An answer that should be true, told in words. */
    void holds(String what, boolean got) {
        due(what, got ? 1 : 0, 1);
    }

    /** Adds instructions, each an op and its argument, to a function's code. */
    static void write(PluginRunner x, int f, int... code) {
        for (int i = 0; i + 1 < code.length; i += 2) {
            if (x.emit(f, code[i], code[i + 1]) < 0) {
                throw new IllegalStateException("the test's own code was not taken");
            }
        }
    }

    /** A new object whose only function has this code. */
    static PluginRunner one(int takes, int gives, int locals, int... code) {
        PluginRunner x = new PluginRunner();
        x.function(takes, gives, locals);
        write(x, 0, code);
        return x;
    }

    /** The same, checked and started. */
    PluginRunner started(int takes, int gives, int locals, int a, int b, int... code) {
        PluginRunner x = one(takes, gives, locals, code);
        due("check()", x.check(), PluginRunner.DONE);
        due("start(0, a, b)", x.start(0, a, b), PluginRunner.DONE);
        return x;
    }

    /** All that can be asked of an object without changing it, as one text. */
    static String everything(PluginRunner x) {
        StringBuilder all = new StringBuilder();
        for (int what = -1; what <= 9; what++) {
            all.append(" c").append(x.count(what)).append(" s").append(x.state(what));
        }
        for (int i = -1; i <= 32; i++) {
            all.append(" m").append(x.memory(i));
        }
        return all.append(" f").append(x.fault()).append(" r").append(x.result()).toString();
    }

    void close() {
        System.out.println(test + ": " + right + " answers as due, " + wrong + " not");
        if (wrong != 0 || right == 0) {
            System.exit(1);
        }
    }
}
