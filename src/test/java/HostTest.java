/** Promises 9 and 10: reply and grant. */
public final class HostTest {
    private static final Kit KIT = new Kit("HostTest");

    public static void main(String[] args) {
        grantRange();
        grantIsForOneHost();
        grantCanBeTakenBack();
        waiting();
        answerAtTheEndOfTheCode();
        manyQuestions();
        KIT.close();
    }

    private static void grantRange() {
        PluginRunner x = new PluginRunner();
        for (int h : new int[] {-1, 4, Integer.MIN_VALUE, Integer.MAX_VALUE}) {
            KIT.due("grant(" + h + ", true)", x.grant(h, true), PluginRunner.REFUSED);
            KIT.due("grant(" + h + ", false)", x.grant(h, false), PluginRunner.REFUSED);
        }
        for (int h = 0; h < 4; h++) {
            KIT.due("grant(" + h + ", true)", x.grant(h, true), PluginRunner.DONE);
            KIT.due("grant(" + h + ", false)", x.grant(h, false), PluginRunner.DONE);
        }
    }

    private static void grantIsForOneHost() {
        for (int granted = 0; granted < 4; granted++) {
            for (int asked = 0; asked < 4; asked++) {
                PluginRunner x = KIT.started(0, 1, 0, 0, 0, Kit.CONST, 8, Kit.HOST, asked);
                x.grant(granted, true);
                KIT.due("resume(9), " + granted + " granted, " + asked + " asked", x.resume(9),
                        granted == asked ? PluginRunner.WAITING : PluginRunner.DENIED);
                KIT.due("state(4)", x.state(4), granted == asked ? asked : -1);
                KIT.due("runs trapped", x.count(8), granted == asked ? 0 : 1);
                KIT.due("fuel used", x.count(5), 2);
            }
        }
    }

    private static void grantCanBeTakenBack() {
        PluginRunner x = KIT.started(0, 1, 0, 0, 0, Kit.CONST, 8, Kit.HOST, 1, Kit.HOST, 1);
        x.grant(1, true);
        KIT.due("resume(9)", x.resume(9), PluginRunner.WAITING);
        x.grant(1, false);
        KIT.due("reply(2) to a question asked before", x.reply(2), PluginRunner.DONE);
        KIT.due("resume(9)", x.resume(9), PluginRunner.DENIED);
        KIT.due("reply(2) after a trap", x.reply(2), PluginRunner.STATE);
        x.grant(1, true);
        x.erase(0);
        Kit.write(x, 0, Kit.CONST, 8, Kit.HOST, 1);
        x.check();
        x.start(0, 0, 0);
        KIT.due("a grant stays when code changes", x.resume(9), PluginRunner.WAITING);
    }

    private static void waiting() {
        PluginRunner x = KIT.started(0, 1, 0, 0, 0, Kit.CONST, 3, Kit.CONST, -8, Kit.HOST, 2, Kit.SUB, 0);
        x.grant(2, true);
        KIT.due("reply(1) before", x.reply(1), PluginRunner.STATE);
        KIT.due("resume(3)", x.resume(3), PluginRunner.WAITING);
        KIT.due("resume(1) while it waits", x.resume(1), PluginRunner.STATE);
        KIT.due("resume(0) while it waits", x.resume(0), PluginRunner.REFUSED);
        KIT.due("state(0)", x.state(0), 1);
        KIT.due("state(1)", x.state(1), 0);
        KIT.due("state(2)", x.state(2), 3);
        KIT.due("state(3): the value is taken", x.state(3), 1);
        KIT.due("state(4)", x.state(4), 2);
        KIT.due("state(5)", x.state(5), -8);
        KIT.due("reply(MIN)", x.reply(Integer.MIN_VALUE), PluginRunner.DONE);
        KIT.due("state(2)", x.state(2), 3);
        KIT.due("state(3)", x.state(3), 2);
        KIT.due("state(4)", x.state(4), -1);
        KIT.due("state(5)", x.state(5), 0);
        KIT.due("reply again", x.reply(1), PluginRunner.STATE);
        KIT.due("resume(1)", x.resume(1), PluginRunner.ENDED);
        KIT.due("result()", x.result(), 3 - Integer.MIN_VALUE);
        KIT.due("fuel used", x.count(5), 4);
        KIT.due("reply after the end", x.reply(1), PluginRunner.STATE);
    }

    private static void answerAtTheEndOfTheCode() {
        PluginRunner x = new PluginRunner();
        x.function(0, 1, 0);
        x.function(1, 1, 0);
        Kit.write(x, 0, Kit.CONST, 4, Kit.CALL, 1);
        Kit.write(x, 1, Kit.GET, 0, Kit.HOST, 0);
        x.check();
        x.grant(0, true);
        x.start(0, 0, 0);
        KIT.due("resume(4)", x.resume(4), PluginRunner.WAITING);
        KIT.due("functions under way", x.state(0), 2);
        KIT.due("next", x.state(2), 2);
        KIT.due("reply(9)", x.reply(9), PluginRunner.DONE);
        KIT.due("a reply ends no function", x.state(0), 2);
        KIT.due("next", x.state(2), 2);
        KIT.due("runs ended", x.count(7), 0);
        KIT.due("resume(1)", x.resume(1), PluginRunner.ENDED);
        KIT.due("result()", x.result(), 9);
        KIT.due("fuel used", x.count(5), 4);
    }

    private static void manyQuestions() {
        PluginRunner x = KIT.started(0, 1, 1, 0, 0, Kit.LOOP, 0, Kit.GET, 0, Kit.HOST, 3, Kit.SET, 0, Kit.GET, 0,
                Kit.CONST, 5, Kit.LESS, 0, Kit.BRANCH_IF, 0, Kit.END, 0, Kit.GET, 0);
        x.grant(3, true);
        for (int i = 0; i < 5; i++) {
            KIT.due("resume(200)", x.resume(200), PluginRunner.WAITING);
            KIT.due("state(5)", x.state(5), i);
            KIT.due("reply", x.reply(i + 1), PluginRunner.DONE);
        }
        KIT.due("resume(200)", x.resume(200), PluginRunner.ENDED);
        KIT.due("result()", x.result(), 5);
    }
}
