/** The terms about THE CHECK: each of its faults, one step on either side of it, and their order. */
final class CheckEdges extends Edges {
    private static final String[] TAKING_TWO = {"ADD", "SUB", "MUL", "DIV", "LESS", "EQUAL", "STORE"};
    private static final String[] TAKING_ONE = {"SET", "DROP", "LOAD", "HOST"};

    CheckEdges(Sentences sentences) {
        super(sentences);
    }

    @Override
    void all() {
        term("THE CHECK goes through the functions and their instructions in order,", this::inOrder);
        term("with the HEIGHT of the stack in the function, 0 at first,", this::heightAtFirst);
        term("and the BASE of each open part, the HEIGHT when it opened (0 for the function).", this::bases);
        term("An instruction's FAULTS, the first one counting:", this::firstCounts);
        term("1 its ARGUMENT isn't a LOCAL (GET, SET),", this::argumentIsLocal);
        term("an open part or the function (BRANCH, BRANCH IF),", this::argumentIsPart);
        term("a function (CALL),", this::argumentIsFunction);
        term("0 .. 3 (HOST),", this::argumentIsHost);
        term("0 .. 31 (LOAD, STORE);", this::argumentIsCell);
        term("2 it takes more than the HEIGHT less the BASE of the innermost open part;", this::tooFew);
        term("3 END: none is open, or the HEIGHT isn't its BASE;", this::end);
        term("4 BRANCH, BRANCH IF (after taking its value) to a part: the HEIGHT isn't the HEIGHT that its BASE says;",
                this::heightToAPart);
        term("to the function's end, and RETURN: the HEIGHT isn't what the function gives;", this::heightToTheEnd);
        term("5 it comes right behind a BRANCH or RETURN and isn't an END.", this::neverComeTo);
        term("The end of the code counts as one more instruction: 3 a part is open;", this::partOpenAtTheEnd);
        term("4 the HEIGHT isn't what the function gives (not looked at if the last instruction is a BRANCH or RETURN).",
                this::heightAtTheEnd);
        term("After a BRANCH or RETURN the HEIGHT at the END is taken to be its BASE.", this::endBehindLeaving);
        term("FAULTS in the order 5, 1, 2, 3, 4.", this::order);
    }

    private void inOrder() {
        String good = "0 0 0: BLOCK, END";
        String bad = "0 0 0: BLOCK, END, GET 0, END";
        faulty(1, 0, 2, bad, good, good, good);
        faulty(1, 1, 2, good, bad, good, bad);
        faulty(1, 2, 2, good, good, bad, bad);
        faulty(1, 3, 2, good, good, good, bad);
        faultless(good, good, good, good);
        // The later instruction's fault would be of a sort that comes earlier in an instruction's own.
        faulty(3, 0, 0, "0 0 0: END, GET 0");
        faulty(4, 0, 1, "0 0 0: CONST 1, RETURN, CONST 1");
        // The end of one function's code comes before the next function's first instruction.
        faulty(4, 0, 1, "0 0 0: CONST 1", "0 0 0: GET 0");
    }

    private void heightAtFirst() {
        faulty(2, 0, 0, "2 0 3: DROP");
        faulty(4, 0, 0, "2 1 3:");
        faultless("2 0 3:");
        faulty(2, 1, 0, "0 1 0: CONST 1", "0 0 0: DROP");
        faulty(4, 1, 0, "0 1 0: CONST 1", "0 1 0:");
        faultless("0 1 0: CONST 1", "0 0 0:");
        // Nothing of the function before is left: no part, no RETURN right before.
        faultless("0 0 0: RETURN", "0 1 0: CONST 1");
        faulty(4, 1, 0, "0 1 0: CONST 1, RETURN", "0 1 0:");
        // Nor of the check before, wherever in the code that found its fault.
        for (String left : new String[] {"BLOCK, GET 0", "CONST 1", "CONST 1, LOOP, CONST 1, END", "RETURN, RETURN"}) {
            PluginRunner x = written("0 0 0: " + left);
            holds("a fault was found", x.check() <= -1000);
            due("erase(0)", x.erase(0), PluginRunner.DONE);
            due("check() of no code", x.check(), PluginRunner.DONE);
            add(x, 0, "CONST 1, DROP");
            due("check() of new code", x.check(), PluginRunner.DONE);
        }
    }

    private void bases() {
        for (String part : new String[] {"BLOCK", "LOOP"}) {
            for (int base = 0; base <= 3; base++) {
                String head = "0 0 0: " + times(base, "CONST 1, ") + part;
                String rest = ", END, " + times(base, "DROP, ");
                faultless(head + rest);
                faultless(head + ", CONST 1, DROP" + rest);
                faultless(head + ", BRANCH 0" + rest);
                faulty(2, 0, base + 1, head + ", DROP" + rest);
                faulty(3, 0, base + 2, head + ", CONST 1" + rest);
                faulty(4, 0, base + 2, head + ", CONST 1, BRANCH 0" + rest);
            }
        }
        // Each part has its own: behind an END the outer one's counts again.
        faultless("0 0 0: BLOCK, CONST 1, BLOCK, CONST 1, DROP, END, DROP, END");
        faulty(2, 0, 3, "0 0 0: BLOCK, CONST 1, BLOCK, DROP, END, END");
        faulty(2, 0, 6, "0 0 0: CONST 1, BLOCK, CONST 1, BLOCK, END, DROP, DROP, END");
        faulty(2, 0, 4, "0 0 0: CONST 1, BLOCK, END, DROP, DROP");
    }

    private void firstCounts() {
        faulty(1, 0, 0, "0 0 0: SET 0");
        faulty(2, 0, 0, "0 1 0: BRANCH_IF 0");
        faulty(5, 0, 1, "0 0 0: RETURN, SET 0");
        faulty(4, 0, 0, "0 1 0: RETURN");
    }

    /** The argument is a fault at all these, for an op behind so much code that it lacks nothing else. */
    private void wrongArguments(int at, String head, String op, String rest, int... wrong) {
        for (int argument : wrong) {
            faulty(1, 0, at, head + op + " " + argument + rest);
        }
    }

    private void argumentIsLocal() {
        for (int takes = 0; takes <= 2; takes++) {
            for (int locals = 0; locals <= 3; locals++) {
                int count = takes + locals;
                String head = takes + " 0 " + locals + ": ";
                if (count > 0) {
                    faultless(head + "GET 0, SET 0, GET " + (count - 1) + ", SET " + (count - 1));
                }
                wrongArguments(0, head, "GET", ", DROP", count, -1, LEAST, MOST);
                wrongArguments(1, head + "CONST 1, ", "SET", "", count, -1, LEAST, MOST);
            }
        }
    }

    private void argumentIsPart() {
        for (int open = 0; open <= 4; open++) {
            String head = "0 0 0: " + times(open, "BLOCK, ");
            String rest = ", " + times(open, "END, ");
            for (int part = 0; part <= open; part++) {
                faultless(head + "BRANCH " + part + rest);
                faultless(head + "CONST 1, BRANCH_IF " + part + rest);
            }
            wrongArguments(open, head, "BRANCH", rest, -1, open + 1, LEAST, MOST);
            wrongArguments(open + 1, head + "CONST 1, ", "BRANCH_IF", rest, -1, open + 1, LEAST, MOST);
        }
        // A part that is closed is none that is open.
        wrongArguments(2, "0 0 0: BLOCK, END, ", "BRANCH", "", 1);
        wrongArguments(3, "0 0 0: LOOP, END, CONST 1, ", "BRANCH_IF", "", 1);
    }

    private void argumentIsFunction() {
        String[] rest = {"0 0 0:", "0 0 0:", "0 0 0:"};
        for (int count = 1; count <= 4; count++) {
            for (int f = -1; f <= 4; f++) {
                String[] functions = new String[count];
                functions[0] = "0 0 0: CALL " + f;
                System.arraycopy(rest, 0, functions, 1, count - 1);
                if (f >= 0 && f < count) {
                    faultless(functions);
                } else {
                    faulty(1, 0, 0, functions);
                }
            }
        }
        wrongArguments(0, "0 0 0: ", "CALL", "", LEAST, MOST);
        PluginRunner x = written("0 0 0: CALL 1");
        due("check() before the function called is there", x.check(), -1000);
        due("function(0, 0, 0)", x.function(0, 0, 0), 1);
        due("check() with it", x.check(), PluginRunner.DONE);
    }

    private void argumentIsHost() {
        for (int h = 0; h <= 3; h++) {
            faultless("0 1 0: CONST 1, HOST " + h);
        }
        wrongArguments(1, "0 1 0: CONST 1, ", "HOST", "", -1, 4, LEAST, MOST);
    }

    private void argumentIsCell() {
        for (int cell : new int[] {0, 1, 30, 31}) {
            faultless("0 1 0: CONST 1, LOAD " + cell);
            faultless("0 0 0: CONST 1, CONST 1, STORE " + cell);
        }
        wrongArguments(1, "0 1 0: CONST 1, ", "LOAD", "", -1, 32, LEAST, MOST);
        wrongArguments(2, "0 0 0: CONST 1, CONST 1, ", "STORE", "", -1, 32, LEAST, MOST);
        // The other ops have any argument.
        for (int any : new int[] {LEAST, -1, 4, 32, MOST}) {
            faultless(("0 0 0: BLOCK #, LOOP #, END #, END #, CONST #, CONST #, ADD #, CONST #, SUB #, CONST #, MUL #, "
                    + "CONST #, DIV #, CONST #, LESS #, CONST #, EQUAL #, DROP #, RETURN #").replace("#", "" + any));
        }
    }

    /** An op that takes so many, with just as many and one less, in the function and above a base. */
    private void takes(int taken, String op, int puts, String... others) {
        for (String open : new String[] {"", "CONST 1, BLOCK, ", "CONST 1, CONST 1, LOOP, "}) {
            int below = open.isEmpty() ? 0 : open.split(",").length - 1;
            String close = open.isEmpty() ? "" : "END, " + times(below - 1, "DROP, ");
            for (int have = 0; have <= taken + 1; have++) {
                String code = "0 0 1: " + open + times(have, "CONST 1, ") + op + ", ";
                String rest = times(Math.max(0, have - taken + puts), "DROP, ") + close;
                String[] functions = new String[1 + others.length];
                functions[0] = code + rest;
                System.arraycopy(others, 0, functions, 1, others.length);
                if (have < taken) {
                    faulty(2, 0, below + have, functions);
                } else {
                    faultless(functions);
                }
            }
        }
    }

    private void tooFew() {
        for (String op : TAKING_TWO) {
            takes(2, op, op.equals("STORE") ? 0 : 1);
        }
        for (String op : TAKING_ONE) {
            takes(1, op, op.equals("LOAD") || op.equals("HOST") ? 1 : 0);
        }
        for (int taken = 0; taken <= 2; taken++) {
            takes(taken, "CALL 1", 0, taken + " 0 0:");
            takes(taken, "CALL 1", 1, taken + " 1 0: CONST 1");
        }
        takes(0, "CONST 1", 1);
        takes(0, "GET 0", 1);
        faulty(2, 0, 0, "0 0 0: BRANCH_IF 0");
        faultless("0 0 0: CONST 1, BRANCH_IF 0");
        faulty(2, 0, 2, "0 0 0: CONST 1, BLOCK, BRANCH_IF 0, END, DROP");
        faultless("0 0 0: CONST 1, BLOCK, CONST 1, BRANCH_IF 0, END, DROP");
        // RETURN takes nothing from above a base: the value may lie below it.
        faultless("0 1 0: CONST 1, BLOCK, RETURN, END");
    }

    private void end() {
        faulty(3, 0, 0, "0 0 0: END");
        faulty(3, 0, 1, "0 0 0: CONST 1, END");
        faulty(3, 0, 1, "0 0 0: RETURN, END");
        faulty(3, 0, 1, "0 0 0: BRANCH 0, END");
        for (String part : new String[] {"BLOCK, ", "LOOP, "}) {
            faultless("0 0 0: " + part + "END");
            faulty(3, 0, 2, "0 0 0: " + part + "END, END");
            for (int base = 0; base <= 2; base++) {
                String head = "0 0 0: " + times(base, "CONST 1, ") + part;
                String rest = "END, " + times(base, "DROP, ");
                faultless(head + rest);
                faulty(3, 0, base + 2, head + "CONST 1, " + rest + "DROP");
                faulty(3, 0, base + 3, head + "CONST 1, CONST 1, " + rest + "DROP, DROP");
            }
            faulty(3, 0, 4, "0 0 0: BLOCK, CONST 1, " + part + "END, END, DROP");
        }
    }

    private void heightToAPart() {
        for (String part : new String[] {"BLOCK, ", "LOOP, "}) {
            for (int base = 0; base <= 2; base++) {
                String head = "0 0 0: " + times(base, "CONST 1, ") + part;
                String rest = ", END, " + times(base, "DROP, ");
                faultless(head + "BRANCH 0" + rest);
                faulty(4, 0, base + 2, head + "CONST 1, BRANCH 0" + rest);
                faultless(head + "CONST 1, BRANCH_IF 0" + rest);
                faulty(4, 0, base + 3, head + "CONST 1, CONST 1, BRANCH_IF 0, DROP" + rest);
            }
            // To the outer one of two: its own base counts, not that of the innermost.
            faultless("0 0 0: CONST 1, " + part + "BLOCK, BRANCH 1, END, END, DROP");
            faultless("0 0 0: CONST 1, " + part + "BLOCK, CONST 1, BRANCH_IF 1, END, END, DROP");
            faulty(4, 0, 3, "0 0 0: " + part + "CONST 1, BLOCK, BRANCH 1, END, DROP, END");
            faulty(4, 0, 4, "0 0 0: " + part + "CONST 1, BLOCK, CONST 1, BRANCH_IF 1, END, DROP, END");
            faultless("0 0 0: " + part + "CONST 1, BLOCK, BRANCH 0, END, DROP, END");
        }
    }

    private void heightToTheEnd() {
        for (int gives = 0; gives <= 1; gives++) {
            for (int height = 0; height <= 2; height++) {
                String head = "0 " + gives + " 0: " + times(height, "CONST 1, ");
                String again = times(gives, "CONST 1, ");
                leaves(height == gives, height, head + "RETURN");
                leaves(height == gives, height, head + "BRANCH 0");
                leaves(height == gives, height + 1, head + "CONST 1, BRANCH_IF 0");
                // The part opens below the values, or above them: the whole height counts either way.
                String inside = "0 " + gives + " 0: BLOCK, " + times(height, "CONST 1, ");
                leaves(height == gives, height + 1, inside + "RETURN, END, " + again);
                leaves(height == gives, height + 1, inside + "BRANCH 1, END, " + again);
                leaves(height == gives, height + 1, head + "LOOP, RETURN, END");
                leaves(height == gives, height + 1, head + "LOOP, BRANCH 1, END");
                leaves(height == gives, height + 2, head + "LOOP, CONST 1, BRANCH_IF 1, END");
            }
        }
    }

    private void leaves(boolean well, int at, String function) {
        if (well) {
            faultless(function);
        } else {
            faulty(4, 0, at, function);
        }
    }

    private void neverComeTo() {
        for (int op = 0; op <= 19; op++) {
            if (op != op("END")) {
                faulty(5, 0, 1, "1 0 0: RETURN, " + name(op));
                faulty(5, 0, 1, "1 0 0: BRANCH 0, " + name(op));
                faulty(5, 0, 2, "1 0 0: BLOCK, RETURN, " + name(op) + ", END");
                faulty(5, 0, 2, "1 0 0: LOOP, BRANCH 0, " + name(op) + ", END");
            }
        }
        faultless("0 0 0: BLOCK, RETURN, END");
        faultless("0 0 0: BLOCK, BRANCH 0, END");
        // Not right behind it, or not behind one of these two.
        faultless("0 0 0: BLOCK, RETURN, END, CONST 1, DROP");
        faultless("0 0 0: BLOCK, BRANCH 0, END, CONST 1, DROP");
        faultless("0 0 0: CONST 1, BRANCH_IF 0, CONST 1, DROP");
        faultless("0 0 0: RETURN", "0 0 0: CONST 1, DROP");
    }

    private void partOpenAtTheEnd() {
        for (String part : new String[] {"BLOCK", "LOOP"}) {
            faulty(3, 0, 1, "0 0 0: " + part);
            faulty(3, 0, 2, "0 1 0: " + part + ", CONST 1");
            faulty(3, 0, 2, "0 0 0: " + part + ", CONST 1");
            faulty(3, 0, 2, "0 0 0: " + part + ", RETURN");
            faulty(3, 0, 2, "0 0 0: " + part + ", BRANCH 0");
            faulty(3, 0, 3, "0 0 0: " + part + ", " + part + ", END");
            faultless("0 0 0: " + part + ", " + part + ", END, END");
            faulty(3, 0, 24, "0 0 0: " + times(24, part + ", "));
            faulty(3, 0, 24, "0 0 0: " + part + ", " + times(11, part + ", END, ") + part);
        }
    }

    private void heightAtTheEnd() {
        for (int gives = 0; gives <= 1; gives++) {
            for (int height = 0; height <= 3; height++) {
                leaves(height == gives, height, "0 " + gives + " 0: " + times(height, "CONST 1, "));
            }
        }
        faulty(4, 0, 24, "0 0 0: " + times(24, "CONST 1, "));
        faulty(4, 0, 24, "0 1 0: " + times(12, "BLOCK, END, "));
        faultless("0 1 0: CONST 1, RETURN");
        faultless("0 1 0: CONST 1, BRANCH 0");
        faultless("0 0 0: RETURN");
        // Looked at behind a BRANCH IF, and behind the END of a part that is left by RETURN or BRANCH.
        faulty(4, 0, 4, "0 1 0: CONST 1, CONST 1, BRANCH_IF 0, DROP");
        faulty(4, 0, 4, "0 1 0: BLOCK, CONST 1, RETURN, END");
        faulty(4, 0, 3, "0 1 0: LOOP, BRANCH 0, END");
    }

    private void endBehindLeaving() {
        // The height there is 1, the base 0.
        faultless("0 1 0: BLOCK, CONST 1, RETURN, END, CONST 1");
        faultless("0 1 0: LOOP, CONST 1, BRANCH 1, END, CONST 1");
        // And it is the base from there on: neither less nor more.
        faulty(2, 0, 4, "0 1 0: BLOCK, CONST 1, RETURN, END, DROP, CONST 1");
        faultless("0 1 0: CONST 1, BLOCK, RETURN, END");
        faulty(4, 0, 5, "0 1 0: CONST 1, BLOCK, RETURN, END, CONST 1");
        faultless("0 1 0: CONST 1, BLOCK, RETURN, END, DROP, CONST 1");
        // Only the END right behind: the next one's height is looked at.
        faultless("0 1 0: BLOCK, BLOCK, CONST 1, RETURN, END, END, CONST 1");
        faulty(3, 0, 5, "0 1 0: BLOCK, CONST 1, BLOCK, RETURN, END, END, CONST 1");
        // Not behind a BRANCH IF, which may go on.
        faulty(3, 0, 4, "0 1 0: BLOCK, CONST 1, CONST 1, BRANCH_IF 1, END, CONST 1");
    }

    private void order() {
        String[] behind = {"0 0 0: RETURN, ", "0 0 0: BRANCH 0, "};
        for (String head : behind) {
            faulty(5, 0, 1, head + "GET 0");
            faulty(5, 0, 1, head + "DROP");
            faulty(5, 0, 1, head + "SET 0");
            faulty(5, 0, 1, head + "BRANCH 7");
            faulty(5, 0, 1, head + "BRANCH_IF 7");
        }
        // 5 and 4: the RETURN has the height 0, and 1 is given.
        faulty(5, 0, 2, "0 1 0: BLOCK, BRANCH 0, RETURN, END, CONST 1");
        // 1 and 2, where nothing lies on the stack.
        for (String both : new String[] {"SET 2", "HOST 4", "LOAD 32", "STORE 32", "BRANCH_IF 1"}) {
            faulty(1, 0, 0, "2 0 0: " + both);
        }
        // 1 and 4, 2 and 4; at the end of the code 3 and 4.
        faulty(1, 0, 0, "0 1 0: BRANCH 1");
        faulty(1, 0, 2, "0 1 0: CONST 1, CONST 1, BRANCH 1");
        faulty(2, 0, 0, "0 1 0: BRANCH_IF 0");
        faulty(2, 0, 3, "0 0 0: BLOCK, CONST 1, BLOCK, BRANCH_IF 0, END, DROP, END");
        faulty(3, 0, 1, "0 1 0: BLOCK");
    }
}
