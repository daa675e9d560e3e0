/** The terms up to the ops: functions, locals, code, what each op takes and puts, and where it goes. */
final class OpsEdges extends Edges {
    OpsEdges(Sentences sentences) {
        super(sentences);
    }

    @Override
    void all() {
        term("FUNCTIONS are numbered 0 .. (at most 4).", this::functions);
        term("A function takes 0 .. 2 ints, gives 0 or 1, and has 0 .. 3 more LOCALS, 0 at first;", this::localsAtFirst);
        term("its LOCALS are those taken, then these.", this::localsInOrder);
        term("Its CODE has at most 24 INSTRUCTIONS, numbered from 0, each an OP and an ARGUMENT.", this::code);
        term("All ints wrap.", this::wrap);
        term("OPS, with what they take from the stack (the last one being its top) and put on it:", this::topIsLast);
        term("0 CONST: puts ARGUMENT.", this::constants);
        term("1 GET: puts LOCAL ARGUMENT.", this::get);
        term("2 SET: takes a value into LOCAL ARGUMENT.", this::set);
        term("3 ADD, 4 SUB, 5 MUL: take x, y, put x + y, x - y, x * y.", this::addSubMul);
        term("6 DIV: x / y rounded towards zero;", this::divRounds);
        term("y is 0, or it isn't an int: trap ARITHMETIC.", this::divTraps);
        term("7 LESS: 1 if x is below y, else 0.", this::less);
        term("8 EQUAL: the same.", this::equal);
        term("9 DROP: takes a value.", this::drop);
        term("10 LOAD: takes a, puts the cell a + ARGUMENT (exact) of the MEMORY;", this::load);
        term("11 STORE: takes a, v, the cell a + ARGUMENT becomes v.", this::store);
        term("No such cell: trap MEMORY.", this::noSuchCell);
        term("12 BLOCK, 13 LOOP: open a part that goes to the END that closes it.", this::parts);
        term("14 END: closes the innermost open one.", this::innermostIsClosed);
        term("15 BRANCH: to the part number ARGUMENT, 0 being the innermost open one: of a BLOCK behind its END, "
                + "of a LOOP to its first instruction;", this::branch);
        term("the number of open parts means the end of the function, as RETURN does.", this::branchToTheEnd);
        term("16 BRANCH IF: takes a value, and does as BRANCH if it isn't 0.", this::branchIf);
        term("17 CALL: function ARGUMENT: takes what that takes (the last one from the top), puts what it gives.",
                this::call);
        term("18 HOST: asks the host number ARGUMENT (0 .. 3): takes a value, puts the answer.", this::host);
        term("19 RETURN: ends the function with the value on the top, if it gives one.", this::returns);
        term("Coming to the end of the code is like RETURN, but costs nothing;", this::endCostsNothing);
        term("it happens in resume alone, as soon as no instruction is left, before fuel is looked at.", this::endInResume);
    }

    private void functions() {
        PluginRunner x = new PluginRunner();
        for (int f = 0; f < 4; f++) {
            due("function " + f, x.function(0, 0, 0), f);
            due("functions", x.count(0), f + 1);
        }
        due("a fifth function", x.function(0, 0, 0), PluginRunner.FULL);
        due("functions", x.count(0), 4);
        due("check()", x.check(), PluginRunner.DONE);
        due("start of the last", x.start(3, 0, 0), PluginRunner.DONE);
        due("start of the fifth", x.start(4, 0, 0), PluginRunner.REFUSED);
    }

    private void localsAtFirst() {
        for (int takes = -1; takes <= 3; takes++) {
            for (int gives = -1; gives <= 2; gives++) {
                for (int locals = -1; locals <= 4; locals++) {
                    boolean fits = takes >= 0 && takes <= 2 && gives >= 0 && gives <= 1 && locals >= 0 && locals <= 3;
                    due("function(" + takes + ", " + gives + ", " + locals + ")",
                            new PluginRunner().function(takes, gives, locals), fits ? 0 : PluginRunner.REFUSED);
                }
            }
        }
        // Each gives the sum of its three locals and leaves 9 in all: the next run and call must not see them.
        for (int takes = 0; takes <= 2; takes++) {
            String function = takes + " 1 3: ";
            for (int i = takes; i < takes + 3; i++) {
                function += "GET " + i + ", CONST 9, SET " + i + ", ";
            }
            function += "ADD, ADD, " + times(takes, "CONST 9, SET 0, ");
            PluginRunner x = checked(function);
            for (int run = 0; run < 2; run++) {
                runs(x, 5, 6, PluginRunner.ENDED);
                due("locals of one that takes " + takes + ", run " + run, x.result(), 0);
            }
            String calls = times(takes, "CONST 5, ") + "CALL 1, " + times(takes, "CONST 5, ") + "CALL 1, ADD";
            gives(0, 0, 0, "0 1 0: " + calls, function);
        }
        // The place of one function's first local was another's, which took 5 there.
        gives(0, 0, 0, "0 1 0: CONST 5, CALL 1, CALL 2", "1 0 0:", "0 1 1: GET 0");
    }

    private void localsInOrder() {
        int[] taken = {11, 22};
        for (int takes = 0; takes <= 2; takes++) {
            for (int locals = 0; locals <= 3; locals++) {
                String head = takes + " 1 " + locals + ": ";
                for (int i = 0; i < takes + locals; i++) {
                    gives(i < takes ? taken[i] : 0, 11, 22, head + "GET " + i);
                    gives(33, 11, 22, head + "CONST 33, SET " + i + ", GET " + i);
                }
                faulty(1, 0, 0, head + "GET " + (takes + locals));
                faulty(1, 0, 1, head + "CONST 33, SET " + (takes + locals));
            }
        }
    }

    private void code() {
        PluginRunner x = new PluginRunner();
        x.function(0, 1, 0);
        for (int i = 0; i < 22; i++) {
            due("emit of instruction " + i, x.emit(0, op(i % 2 == 0 ? "BLOCK" : "END"), 0), i);
        }
        due("emit of instruction 22", x.emit(0, op("CONST"), 5), 22);
        due("emit of instruction 23", x.emit(0, op("LOAD"), 3), 23);
        due("instructions", x.count(1), 24);
        due("emit of instruction 24", x.emit(0, op("DROP"), 0), PluginRunner.FULL);
        due("instructions", x.count(1), 24);
        due("poke(8, 99)", x.poke(8, 99), PluginRunner.DONE);
        due("check()", x.check(), PluginRunner.DONE);
        due("start(0, 0, 0)", x.start(0, 0, 0), PluginRunner.DONE);
        for (int i = 0; i < 24; i++) {
            due("next instruction", x.state(2), i);
            due("resume(1)", x.resume(1), i < 23 ? PluginRunner.NO_FUEL : PluginRunner.ENDED);
        }
        due("result of the last instruction and its argument", x.result(), 99);
    }

    private void calculates(String op, int x, int y, long want) {
        gives(want, x, y, "2 1 0: GET 0, GET 1, " + op);
    }

    private void wrap() {
        calculates("ADD", MOST - 1, 1, MOST);
        calculates("ADD", MOST, 1, LEAST);
        calculates("ADD", LEAST + 1, -1, LEAST);
        calculates("ADD", LEAST, -1, MOST);
        calculates("ADD", MOST, MOST, -2);
        calculates("ADD", LEAST, LEAST, 0);
        calculates("SUB", LEAST + 1, 1, LEAST);
        calculates("SUB", LEAST, 1, MOST);
        calculates("SUB", MOST - 1, -1, MOST);
        calculates("SUB", MOST, -1, LEAST);
        calculates("SUB", 0, LEAST, LEAST);
        calculates("MUL", 46340, 46340, 2147395600);
        calculates("MUL", 46341, 46341, -2147479015);
        calculates("MUL", MOST, -1, LEAST + 1);
        calculates("MUL", LEAST, -1, LEAST);
        calculates("MUL", 65536, 65536, 0);
        calculates("MUL", MOST, MOST, 1);
    }

    private void topIsLast() {
        gives(-1, 0, 0, "0 1 0: CONST 2, CONST 3, SUB");
        gives(2, 0, 0, "0 1 0: CONST 2, CONST 3, DROP");
        gives(3, 0, 0, "0 1 1: CONST 2, CONST 3, SET 0, DROP, GET 0");
    }

    private void constants() {
        for (int argument : new int[] {LEAST, -1, 0, 1, MOST}) {
            gives(argument, 0, 0, "0 1 0: CONST " + argument);
            due("values after one CONST", comesTo(1, 1, 0, 0, "0 0 0: CONST " + argument + ", DROP").state(3), 1);
        }
    }

    private void get() {
        for (int i = 0; i < 5; i++) {
            gives(10 + i, 10, 11, "2 1 3: CONST 12, SET 2, CONST 13, SET 3, CONST 14, SET 4, GET " + i);
        }
        due("values after GET", comesTo(1, 1, LEAST, MOST, "2 0 0: GET 0, DROP").state(3), 1);
        gives(LEAST, LEAST, MOST, "2 1 0: GET 0");
        gives(MOST, LEAST, MOST, "2 1 0: GET 1");
        gives(8, 4, 0, "1 1 0: GET 0, GET 0, ADD");
    }

    private void set() {
        int[] before = {1, 20, 0, 0, 0};
        for (int i = 0; i < 5; i++) {
            for (int asked = 0; asked < 5; asked++) {
                gives(asked == i ? 700 : before[asked], 1, 20, "2 1 3: CONST 700, SET " + i + ", GET " + asked);
            }
        }
        due("values after SET", comesTo(2, 2, 0, 0, "0 0 1: CONST 1, SET 0, BLOCK, END").state(3), 0);
        gives(6, 0, 0, "0 1 1: CONST 5, SET 0, CONST 6, SET 0, GET 0");
    }

    private void addSubMul() {
        calculates("ADD", 7, -2, 5);
        calculates("SUB", 7, -2, 9);
        calculates("SUB", -2, 7, -9);
        calculates("MUL", 7, -2, -14);
        calculates("MUL", 7, 0, 0);
        calculates("ADD", 0, 0, 0);
        for (String op : new String[] {"ADD", "SUB", "MUL"}) {
            due("values after " + op, comesTo(4, 4, 0, 0, "0 0 0: CONST 1, CONST 2, CONST 3, " + op + ", DROP, DROP").state(3), 2);
        }
    }

    private void divRounds() {
        calculates("DIV", 6, 2, 3);
        calculates("DIV", 7, 2, 3);
        calculates("DIV", -7, 2, -3);
        calculates("DIV", 7, -2, -3);
        calculates("DIV", -7, -2, 3);
        calculates("DIV", 1, 2, 0);
        calculates("DIV", -1, 2, 0);
        calculates("DIV", 1, MOST, 0);
        calculates("DIV", MOST, LEAST, 0);
        calculates("DIV", LEAST, MOST, -1);
        calculates("DIV", 0, 5, 0);
        due("values after DIV", comesTo(4, 4, 0, 0, "0 0 0: CONST 1, CONST 2, CONST 3, DIV, DROP, DROP").state(3), 2);
    }

    private void divTraps() {
        for (int x : new int[] {LEAST, -1, 0, 1, MOST}) {
            traps(PluginRunner.ARITHMETIC, x, 0, "2 1 0: GET 0, GET 1, DIV");
            calculates("DIV", x, 1, x);
        }
        traps(PluginRunner.ARITHMETIC, LEAST, -1, "2 1 0: GET 0, GET 1, DIV");
        calculates("DIV", LEAST + 1, -1, MOST);
        calculates("DIV", MOST, -1, LEAST + 1);
        calculates("DIV", 0, -1, 0);
        calculates("DIV", LEAST, -2, 1073741824);
        calculates("DIV", LEAST, LEAST, 1);
    }

    private void less() {
        for (int y : new int[] {LEAST + 1, -1, 0, 1, MOST - 1}) {
            calculates("LESS", y - 1, y, 1);
            calculates("LESS", y, y, 0);
            calculates("LESS", y + 1, y, 0);
        }
        calculates("LESS", LEAST, MOST, 1);
        calculates("LESS", MOST, LEAST, 0);
        calculates("LESS", LEAST, LEAST, 0);
        calculates("LESS", MOST, MOST, 0);
    }

    private void equal() {
        for (int y : new int[] {LEAST + 1, -1, 0, 1, 1000, MOST - 1}) {
            calculates("EQUAL", y - 1, y, 0);
            calculates("EQUAL", y, y, 1);
            calculates("EQUAL", y + 1, y, 0);
        }
        // Values that differ in one bit alone.
        for (int bit = 0; bit < 32; bit++) {
            calculates("EQUAL", 5, 5 ^ 1 << bit, 0);
        }
        calculates("EQUAL", LEAST, MOST, 0);
        calculates("EQUAL", LEAST, LEAST, 1);
        calculates("EQUAL", MOST, MOST, 1);
    }

    private void drop() {
        gives(4, 0, 0, "0 1 0: CONST 4, CONST 5, DROP");
        due("values after DROP", comesTo(3, 3, 0, 0, "0 0 0: CONST 4, CONST 5, DROP, DROP").state(3), 1);
    }

    /** Every cell has a value of its own, told by its number. */
    private PluginRunner withCells(String function) {
        PluginRunner x = checked(function);
        for (int i = 0; i < 32; i++) {
            due("poke(" + i + ")", x.poke(i, 100 + i), PluginRunner.DONE);
        }
        return x;
    }

    private void load() {
        for (int argument : new int[] {0, 1, 30, 31}) {
            PluginRunner x = withCells("1 1 0: GET 0, LOAD " + argument);
            for (int cell : new int[] {0, 1, 30, 31}) {
                runs(x, cell - argument, 0, PluginRunner.ENDED);
                due("cell " + cell + " by ARGUMENT " + argument, x.result(), 100 + cell);
            }
            for (int cell : new int[] {-1, 32}) {
                runs(x, cell - argument, 0, PluginRunner.MEMORY);
            }
        }
        // An int that wraps would come to the other end here.
        for (int a : new int[] {MOST, MOST - 30, LEAST}) {
            traps(PluginRunner.MEMORY, a, 0, "1 1 0: GET 0, LOAD 31");
        }
        due("values after LOAD", comesTo(3, 3, 0, 0, "0 0 0: CONST 1, CONST 2, LOAD, DROP, DROP").state(3), 2);
    }

    private void store() {
        for (int argument : new int[] {0, 1, 30, 31}) {
            for (int cell : new int[] {0, 1, 30, 31}) {
                PluginRunner x = withCells("2 0 0: GET 0, GET 1, STORE " + argument);
                runs(x, cell - argument, LEAST, PluginRunner.ENDED);
                for (int i = 0; i < 32; i++) {
                    due("cell " + i + " after a STORE to " + cell, x.memory(i), i == cell ? LEAST : 100 + i);
                }
            }
        }
        due("values after STORE", comesTo(4, 4, 0, 0, "0 0 0: CONST 1, CONST 2, CONST 3, STORE, DROP").state(3), 1);
    }

    private void noSuchCell() {
        for (int argument : new int[] {0, 1, 31}) {
            for (long cell : new long[] {-1, 32, (long) MOST + argument, (long) LEAST + argument}) {
                int a = (int) (cell - argument);
                traps(PluginRunner.MEMORY, a, 0, "1 1 0: GET 0, LOAD " + argument);
                PluginRunner x = withCells("2 0 0: GET 0, GET 1, STORE " + argument);
                runs(x, a, 7, PluginRunner.MEMORY);
                for (int i = 0; i < 32; i++) {
                    due("cell " + i + " after no STORE", x.memory(i), 100 + i);
                }
            }
        }
    }

    private void parts() {
        for (String part : new String[] {"BLOCK", "LOOP"}) {
            // Going through a part and out of it is nothing but its instructions, one after the other.
            PluginRunner x = started("0 1 0: CONST 5, " + part + ", " + part + ", END, END");
            for (int i = 0; i < 5; i++) {
                due("next instruction", x.state(2), i);
                due("resume(1)", x.resume(1), i < 4 ? PluginRunner.NO_FUEL : PluginRunner.ENDED);
            }
            due("result()", x.result(), 5);
            PluginRunner nested = started("0 0 0: " + times(12, part + ", ") + times(12, "END, "));
            due("resume(24) of twelve parts", nested.resume(24), PluginRunner.ENDED);
            due("its fuel", nested.count(5), 24);
        }
        // The part goes to its own END: not to one of a part inside it, nor to one behind it.
        comesTo(6, 3, 0, 0, "0 0 0: BLOCK, CONST 1, BRANCH_IF 0, BLOCK, END, END, BLOCK, END");
        comesTo(4, 3, 0, 0, "0 0 0: BLOCK, CONST 1, BRANCH_IF 0, END, BLOCK, END");
        comesTo(8, 3, 0, 0, "0 0 0: BLOCK, CONST 1, BRANCH_IF 0, LOOP, BLOCK, END, END, END, BLOCK, END");
    }

    private void innermostIsClosed() {
        faulty(3, 0, 0, "0 0 0: END");
        faulty(3, 0, 2, "0 0 0: BLOCK, END, END");
        faulty(3, 0, 3, "0 0 0: BLOCK, BLOCK, END");
        faultless("0 0 0: BLOCK, BLOCK, END, END");
        // Behind the inner END the outer part is the innermost open one, and the only one.
        comesTo(5, 4, 0, 0, "0 0 0: BLOCK, LOOP, END, BRANCH 0, END, BLOCK, END");
        comesTo(1, 4, 0, 0, "0 0 0: LOOP, BLOCK, END, BRANCH 0, END, BLOCK, END");
        faultless("0 0 0: BLOCK, BLOCK, BRANCH 2, END, END");
        faulty(1, 0, 3, "0 0 0: BLOCK, BLOCK, END, BRANCH 2, END");
    }

    private void branch() {
        // Instruction 4 is in four parts; what each of them is, is told by where the branch comes to.
        String[] nest = {"0 0 0: LOOP, BLOCK, LOOP, BLOCK, BRANCH ", ", END, END, END, END, BLOCK, END"};
        int[] due = {6, 3, 8, 1};
        for (int part = 0; part < 4; part++) {
            comesTo(due[part], 5, 0, 0, nest[0] + part + nest[1]);
        }
        faulty(1, 0, 4, nest[0] + -1 + nest[1]);
        faulty(1, 0, 4, nest[0] + 5 + nest[1]);
        // Parts that are closed already, and parts that open later, aren't counted.
        comesTo(7, 6, 0, 0, "0 0 0: BLOCK, BLOCK, END, LOOP, END, BRANCH 0, END, BLOCK, END");
        comesTo(1, 6, 0, 0, "0 0 0: LOOP, BLOCK, END, LOOP, END, BRANCH 0, END, BLOCK, END");
        // Nor are instructions that open and close nothing.
        String between = "CONST 0, BRANCH_IF 0, CALL 1, BLOCK, CONST 0, BRANCH_IF 1, BRANCH 0, END, BRANCH 0, END, BLOCK, END";
        comesTo(11, 9, 0, 0, "0 0 0: BLOCK, " + between, "0 0 0:");
        comesTo(1, 9, 0, 0, "0 0 0: LOOP, " + between, "0 0 0:");
        comesTo(1, 3, 0, 0, "0 0 0: LOOP, LOOP, BRANCH 1, END, END");
        comesTo(2, 3, 0, 0, "0 0 0: LOOP, LOOP, BRANCH 0, END, END");
        comesTo(1, 200, 0, 0, "0 0 0: LOOP, BRANCH 0, END");
        PluginRunner x = started("0 0 0: BLOCK, BRANCH 0, END");
        due("resume(2): nothing is behind the END", x.resume(2), PluginRunner.ENDED);
        due("fuel", x.count(5), 2);
    }

    private void branchToTheEnd() {
        for (String part : new String[] {"BLOCK, ", "LOOP, "}) {
            for (int open = 0; open <= 3; open++) {
                String head = "0 1 0: " + times(open, part) + "CONST 6, BRANCH ";
                String rest = open == 0 ? "" : ", " + times(open, "END, ") + "CONST 7";
                PluginRunner x = started(head + open + rest);
                due("resume of just what it costs", x.resume(open + 2), PluginRunner.ENDED);
                due("result()", x.result(), 6);
                faulty(1, 0, open + 1, head + (open + 1) + rest);
            }
        }
        // Of the innermost function alone: its caller goes on.
        PluginRunner x = comesTo(1, 4, 0, 0, "0 1 0: CALL 1, CONST 1, ADD", "0 1 0: BLOCK, CONST 6, BRANCH 1, END, CONST 9");
        due("functions under way", x.state(0), 1);
        due("values", x.state(3), 1);
        due("resume(2)", x.resume(2), PluginRunner.ENDED);
        due("result()", x.result(), 7);
    }

    private void branchIf() {
        String toBlock = "1 1 0: BLOCK, GET 0, BRANCH_IF 0, CONST 3, RETURN, END, CONST 4";
        String toLoop = "1 0 0: LOOP, GET 0, BRANCH_IF 0, END, BLOCK, END";
        String toTheEnd = "1 1 0: CONST 3, GET 0, BRANCH_IF 0, DROP, CONST 4";
        for (int value : new int[] {LEAST, -1, 1, 2, MOST}) {
            gives(4, value, 0, toBlock);
            due("values after BRANCH IF", comesTo(1, 3, value, 0, toLoop).state(3), 0);
            gives(3, value, 0, toTheEnd);
        }
        gives(3, 0, 0, toBlock);
        due("values after BRANCH IF", comesTo(3, 3, 0, 0, toLoop).state(3), 0);
        gives(4, 0, 0, toTheEnd);
        String[] nest = {"1 0 0: LOOP, BLOCK, LOOP, BLOCK, GET 0, BRANCH_IF ", ", END, END, END, END, BLOCK, END"};
        int[] due = {7, 3, 9, 1};
        for (int part = 0; part < 4; part++) {
            comesTo(due[part], 6, 1, 0, nest[0] + part + nest[1]);
            comesTo(6, 6, 0, 0, nest[0] + part + nest[1]);
        }
        PluginRunner x = started(1, 0, nest[0] + 4 + nest[1]);
        due("resume(6) to the function's end", x.resume(6), PluginRunner.ENDED);
        faulty(1, 0, 5, nest[0] + -1 + nest[1]);
        faulty(1, 0, 5, nest[0] + 5 + nest[1]);
    }

    /** Right behind a CALL: the function called is the innermost, at its first instruction. */
    private void called(int fuel, int values, long result, String... functions) {
        PluginRunner x = comesTo(0, fuel, 0, 0, functions);
        due("functions under way", x.state(0), 2);
        due("innermost function", x.state(1), 1);
        due("values that the CALL left", x.state(3), values);
        due("resume(200)", x.resume(200), PluginRunner.ENDED);
        due("result()", x.result(), result);
    }

    private void call() {
        called(2, 1, 70, "0 1 0: CONST 100, CALL 1, SUB", "0 1 0: CONST 30");
        called(4, 2, 126, "0 1 0: CONST 100, CONST 30, CONST 4, CALL 1, SUB, ADD", "1 1 0: GET 0");
        called(4, 1, 126, "0 1 0: CONST 100, CONST 30, CONST 4, CALL 1, ADD", "2 1 0: GET 0, GET 1, SUB");
        called(2, 1, 100, "0 1 0: CONST 100, CALL 1", "0 0 0: BLOCK, END");
        called(3, 1, 100, "0 1 0: CONST 100, CONST 4, CALL 1", "1 0 0: BLOCK, END");
        called(4, 1, 100, "0 1 0: CONST 100, CONST 30, CONST 4, CALL 1", "2 0 0: BLOCK, END");
        for (int f = 1; f <= 3; f++) {
            gives(10 * f, 0, 0, "0 1 0: CALL " + f, "0 1 0: CONST 10", "0 1 0: CONST 20", "0 1 0: CONST 30");
        }
        faulty(1, 0, 0, "0 1 0: CALL 4", "0 1 0: CONST 10", "0 1 0: CONST 20", "0 1 0: CONST 30");
        faulty(1, 0, 0, "0 1 0: CALL -1");
    }

    private void host() {
        for (int h = 0; h <= 3; h++) {
            PluginRunner x = started("0 1 0: CONST 2, CONST 7, HOST " + h + ", SUB");
            due("grant(" + h + ", true)", x.grant(h, true), PluginRunner.DONE);
            due("resume(200)", x.resume(200), PluginRunner.WAITING);
            due("host asked", x.state(4), h);
            due("asked with", x.state(5), 7);
            due("values: one is taken", x.state(3), 1);
            due("reply(10)", x.reply(10), PluginRunner.DONE);
            due("values: one is put", x.state(3), 2);
            due("resume(1)", x.resume(1), PluginRunner.ENDED);
            due("result()", x.result(), 2 - 10);
        }
        faulty(1, 0, 1, "0 1 0: CONST 2, HOST -1");
        faulty(1, 0, 1, "0 1 0: CONST 2, HOST 4");
    }

    private void returns() {
        gives(6, 0, 0, "0 1 0: CONST 6, RETURN");
        gives(6, 0, 0, "0 1 0: CONST 6, BLOCK, RETURN, END, DROP, CONST 7");
        gives(6, 0, 0, "0 1 0: BLOCK, LOOP, CONST 6, RETURN, END, END, CONST 7");
        gives(PluginRunner.NONE, 0, 0, "0 0 0: RETURN");
        gives(PluginRunner.NONE, 0, 0, "0 0 0: BLOCK, RETURN, END, CONST 0, CONST 0, DIV, DROP");
        // Ends the function, not the run: the caller goes on with the value, or without one.
        gives(-5, 0, 0, "0 1 0: CONST 1, CALL 1, SUB", "0 1 0: BLOCK, CONST 6, RETURN, END, CONST 7");
        gives(1, 0, 0, "0 1 0: CONST 1, CALL 1", "0 0 0: BLOCK, RETURN, END, CONST 0, CONST 0, DIV, DROP");
        PluginRunner x = comesTo(2, 5, 0, 0, "0 1 0: CONST 1, CALL 1, SUB", "0 1 0: BLOCK, CONST 6, RETURN, END, CONST 7");
        due("functions under way", x.state(0), 1);
        due("values", x.state(3), 2);
    }

    private void endCostsNothing() {
        PluginRunner x = started("0 1 0: CONST 6");
        due("resume(1) to the end of the code", x.resume(1), PluginRunner.ENDED);
        due("result()", x.result(), 6);
        due("fuel", x.count(5), 1);
        PluginRunner returning = comesTo(1, 1, 0, 0, "0 1 0: CONST 6, RETURN");
        due("resume(1) of the RETURN", returning.resume(1), PluginRunner.ENDED);
        due("fuel with a RETURN", returning.count(5), 2);
        PluginRunner empty = started("0 0 0:");
        due("resume(1) of no code", empty.resume(1), PluginRunner.ENDED);
        due("fuel of no code", empty.count(5), 0);
        due("result() of no code", empty.result(), PluginRunner.NONE);
        PluginRunner calling = started("0 1 0: CALL 1, CONST 1, ADD", "0 1 0: CONST 6");
        due("resume(4)", calling.resume(4), PluginRunner.ENDED);
        due("result()", calling.result(), 7);
        due("fuel", calling.count(5), 4);
    }

    private void endInResume() {
        PluginRunner empty = started("0 0 0:");
        due("start ends nothing: functions under way", empty.state(0), 1);
        due("next instruction", empty.state(2), 0);
        due("runs ENDED", empty.count(7), 0);
        due("resume(1)", empty.resume(1), PluginRunner.ENDED);
        due("runs ENDED", empty.count(7), 1);
        PluginRunner asking = waiting();
        due("reply(3)", asking.reply(3), PluginRunner.DONE);
        due("reply ends nothing: functions under way", asking.state(0), 1);
        due("next instruction", asking.state(2), 2);
        due("runs ENDED", asking.count(7), 0);
        due("result()", asking.result(), PluginRunner.NONE);
        due("resume(1)", asking.resume(1), PluginRunner.ENDED);
        due("result()", asking.result(), 3);
        due("fuel", asking.count(5), 2);
        // The function called has no code, so it ends with the CALL that used the last fuel.
        PluginRunner x = comesTo(1, 1, 0, 0, "0 0 0: CALL 1, BLOCK, END", "0 0 0:");
        due("functions under way", x.state(0), 1);
        due("innermost function", x.state(1), 0);
        // Three callers have no instruction left either: all four end with the last fuel.
        String[] chain = {"0 0 0: CALL 1", "0 0 0: CALL 2", "0 0 0: CALL 3", "0 0 0: BLOCK, END"};
        due("functions under way", comesTo(1, 4, 0, 0, chain).state(0), 4);
        PluginRunner whole = started(chain);
        due("resume(5)", whole.resume(5), PluginRunner.ENDED);
        due("fuel", whole.count(5), 5);
    }
}
