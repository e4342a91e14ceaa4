/** The sentences of STATES and CHOICES, and of promises 13 to 19. */
final class StateSentences {
    private static final int BAD = StackStates.BAD;
    private static final int NONE = StackStates.NONE;
    private static final int LOW = Integer.MIN_VALUE;
    private static final int HIGH = Integer.MAX_VALUE;

    private static final String[][] STATES = {
        {"", "0"},
        {"", "0", "1", "01", "10"},
        {"", "0", "1", "2", "01", "02", "10", "12", "20", "21", "012", "021", "102", "120", "201", "210"}};

    private static final String[] KINDS = {"n01", "+", "-", "*", "d", "x", "p", "o", "r", "g0", "s0", "j00", "b00", "w",
        "h"};
    private static final int[] TAKES = {0, 2, 2, 2, 1, 2, 1, 2, 3, 0, 1, 0, 1, 1, 0};
    private static final int[] COMES = {1, 1, 1, 1, 2, 2, 0, 3, 3, 1, 0, 0, 0, 0, 0};

    private final Sentences t;

    StateSentences(Sentences t) {
        this.t = t;
    }

    void all() {
        registers();
        states();
        costs();
        versions();
        copiesAndPermutations();
        plainVersions();
        transitions();
        steps();
        choices();
        costOfChoices();
        weights();
        ties();
        stateAnswers();
        passageAnswers();
        versionAnswers();
        bestAnswers();
        meetsAnswers();
        ifMeetsAnswers();
    }

    private static StackStates with(int registers) {
        StackStates x = new StackStates();
        x.registers(registers);
        return x;
    }

    // ---- STATES

    private void registers() {
        t.of("STATES", "There are R registers, 1 to 3, numbered from 0; R is 2 at first.");
        t.due("at first", new StackStates().count(1), 2);
        for (int r = 1; r <= 3; r++) {
            StackStates x = with(r);
            t.due("R", x.count(1), r);
            x.start();
            t.due("before the first one", x.register(-1), BAD);
            for (int k = 0; k < r; k++) t.due("register(" + k + ")", x.register(k), NONE);
            t.due("behind the last one", x.register(r), BAD);
        }
        t.due("no register", new StackStates().registers(0), BAD);
        t.due("four registers", new StackStates().registers(4), BAD);
    }

    // By the present state the registers hold the top cells, and all others are in memory.
    private void holds(StackStates x, int... cells) {
        int s = x.now(1);
        int held = x.state(s, -1);
        for (int i = 0; i < cells.length; i++) t.due("cell(" + i + ")", x.cell(i), cells[i]);
        for (int i = 0; i < held; i++) t.due("register of cell " + i, x.register(x.state(s, i)), cells[i]);
        for (int i = 0; i < cells.length; i++) {
            int place = cells.length - 1 - i;
            t.due("memory(" + place + ")", x.memory(place), i < held ? NONE : cells[i]);
        }
        t.due("behind the memory", x.memory(cells.length), NONE);
    }

    private void states() {
        t.of("STATES", "A state is a sequence of different registers, which hold the top cells of the stack, the first"
                + " register the top one; the other cells are in memory.");
        for (int r = 1; r <= 3; r++) {
            StackStates x = Check.laid("n01n02n03n04n05");
            x.registers(r);
            x.start();
            holds(x);
            int[][] cells = {{1}, {2, 1}, {3, 2, 1}, {4, 3, 2, 1}, {5, 4, 3, 2, 1}};
            for (int[] row : cells) {
                x.step(1);
                holds(x, row);
            }
            t.due("all registers are used", x.state(x.now(1), -1), r);
            StackStates y = with(r);
            for (int s = 0; s < y.states(); s++) {
                int seen = 0;
                for (int i = 0; i < y.state(s, -1); i++) seen |= 1 << y.state(s, i);
                t.due("different ones", Integer.bitCount(seen), y.state(s, -1));
            }
        }

        t.of("STATES", "States are numbered from 0: first the empty one, then by their lengths, and for the same length"
                + " lexicographically.");
        for (int r = 1; r <= 3; r++) {
            StackStates x = with(r);
            for (int s = 0; s < STATES[r - 1].length; s++) {
                StringBuilder name = new StringBuilder();
                for (int i = 0; i < x.state(s, -1); i++) name.append(x.state(s, i));
                t.isTrue("state " + s + " is " + name, name.toString().equals(STATES[r - 1][s]));
            }
        }
    }

    private void costs() {
        t.of("STATES", "The costs of a move, a load and a store are 0 to 9 each; 1, 2 and 2 at first.");
        StackStates x = new StackStates();
        t.due("a move", x.count(2), 1);
        t.due("a load", x.count(3), 2);
        t.due("a store", x.count(4), 2);
        t.due("0 is taken", x.costs(0, 0, 0), 122);
        t.due("9 is taken", x.costs(9, 9, 9), 0);
        t.due("a move of -1", x.costs(-1, 9, 9), BAD);
        t.due("a load of -1", x.costs(9, -1, 9), BAD);
        t.due("a store of -1", x.costs(9, 9, -1), BAD);
        t.due("a move of 10", x.costs(10, 9, 9), BAD);
        t.due("a load of 10", x.costs(9, 10, 9), BAD);
        t.due("a store of 10", x.costs(9, 9, 10), BAD);
        t.due("they stay", x.costs(0, 0, 0), 999);
    }

    // A program with all kinds of instructions from 1 on, which need not be reached.
    private static StackStates allKinds(int registers) {
        StackStates x = Check.laid("h" + String.join("", KINDS));
        x.registers(registers);
        x.costs(3, 5, 7);
        return x;
    }

    private static boolean inRegisters(int k, int held, int registers) {
        return held >= TAKES[k] && held - TAKES[k] + COMES[k] <= registers;
    }

    private void versions() {
        t.of("STATES", "An instruction that takes a cells, for which c cells come, has the following version in a state"
                + " with d registers.");
        for (int r = 1; r <= 3; r++) {
            StackStates x = allKinds(r);
            for (int k = 0; k < KINDS.length; k++) {
                for (int s = 0; s < STATES[r - 1].length; s++) {
                    boolean has = s == 0 || inRegisters(k, STATES[r - 1][s].length(), r);
                    t.due(KINDS[k] + " in " + s + " of " + r, x.version(k + 1, s, 0) == NONE ? 0 : 1, has ? 1 : 0);
                }
            }
        }

        t.of("STATES", "If d is at least a, and d - a + c is at most R: the cells that it takes leave their registers, and"
                + " the cell that comes is held in the smallest register that is free then, as the top one; this costs 0.");
        String common = "n+-*pgsjbwh";
        for (int r = 1; r <= 3; r++) {
            StackStates x = allKinds(r);
            for (int k = 0; k < KINDS.length; k++) {
                if (common.indexOf(KINDS[k].charAt(0)) < 0) continue;
                for (int s = 0; s < STATES[r - 1].length; s++) {
                    String state = STATES[r - 1][s];
                    if (!inRegisters(k, state.length(), r)) continue;
                    String rest = state.substring(TAKES[k]);
                    leaves(x, k, s, COMES[k] == 0 ? rest : smallestFree(rest) + rest, 0, STATES[r - 1]);
                }
            }
        }
    }

    private static String smallestFree(String state) {
        int free = 0;
        while (state.contains("" + free)) free++;
        return "" + free;
    }

    private void leaves(StackStates x, int k, int s, String after, int cost, String[] names) {
        String what = KINDS[k] + " in state " + names[s];
        int number = 0;
        while (!names[number].equals(after)) number++;
        t.due(what + " leaves", x.version(k + 1, s, 0), number);
        t.due(what + " costs", x.version(k + 1, s, 1), cost);
        t.due(what + " is plain", x.version(k + 1, s, 2), 0);
    }

    private void copiesAndPermutations() {
        t.of("STATES", "But x and r leave the cells where they are and only permute the sequence; and d and o leave the"
                + " cells that they take in their registers, and hold the copy in the smallest free register, which costs"
                + " one move.");
        for (int r = 1; r <= 3; r++) {
            StackStates x = allKinds(r);
            for (int k = 0; k < KINDS.length; k++) {
                for (int s = 0; s < STATES[r - 1].length; s++) {
                    String state = STATES[r - 1][s];
                    if (!inRegisters(k, state.length(), r)) continue;
                    char kind = KINDS[k].charAt(0);
                    if (kind == 'x') leaves(x, k, s, turned(state, 2), 0, STATES[r - 1]);
                    if (kind == 'r') leaves(x, k, s, turned(state, 3), 0, STATES[r - 1]);
                    if (kind == 'd' || kind == 'o') leaves(x, k, s, smallestFree(state) + state, 3, STATES[r - 1]);
                }
            }
        }
        StackStates dear = allKinds(3);
        dear.costs(9, 0, 0);
        t.due("a move of 9", dear.version(5, 1, 1), 9);
        dear.costs(0, 9, 9);
        t.due("a move of 0", dear.version(5, 1, 1), 0);
    }

    private static String turned(String state, int n) {
        return state.charAt(n - 1) + state.substring(0, n - 1) + state.substring(n);
    }

    private void plainVersions() {
        t.of("STATES", "Otherwise it has a version only in state 0: it leaves state 0, and costs a loads and c stores, and"
                + " it is called plain; but p costs 0 there and is not plain.");
        for (int r = 1; r <= 3; r++) {
            StackStates x = allKinds(r);
            for (int k = 0; k < KINDS.length; k++) {
                boolean p = KINDS[k].equals("p");
                for (int s = 0; s < STATES[r - 1].length; s++) {
                    if (inRegisters(k, STATES[r - 1][s].length(), r)) continue;
                    String what = KINDS[k] + " in state " + s + " of " + r;
                    t.due(what, x.version(k + 1, s, 0), s == 0 ? 0 : NONE);
                    int cost = p ? 0 : 5 * TAKES[k] + 7 * COMES[k];
                    t.due(what + " costs", x.version(k + 1, s, 1), s == 0 ? cost : NONE);
                    t.due(what + " is plain", x.version(k + 1, s, 2), s != 0 ? NONE : p ? 0 : 1);
                }
            }
        }
        StackStates dear = allKinds(1);
        dear.costs(9, 9, 9);
        t.due("r with loads and stores of 9", dear.version(9, 0, 1), 54);
        t.due("p with loads of 9", dear.version(7, 0, 1), 0);
        dear.costs(9, 0, 0);
        t.due("r with loads and stores of 0", dear.version(9, 0, 1), 0);
        t.due("which is plain still", dear.version(9, 0, 2), 1);
    }

    private void transitions() {
        t.of("STATES", "The transition cost from state s to state t is the smallest sum of costs of the following steps"
                + " that lead from s to t.");
        StackStates x = with(2);
        // A move, or a store and a load, whichever is cheaper.
        int[][] costs = {{3, 2, 2, 3}, {4, 2, 2, 4}, {5, 2, 2, 4}, {9, 0, 0, 0}, {0, 9, 9, 0}, {9, 0, 9, 9}, {9, 9, 9, 9}};
        for (int[] c : costs) {
            x.costs(c[0], c[1], c[2]);
            t.due("a move of " + c[0], x.passage(1, 2), c[3]);
        }
        // A circle of two with a free register: three moves, or a move, a store and a load, or two of each.
        StackStates three = with(3);
        int[][] circles = {{1, 1, 1, 3}, {1, 2, 1, 3}, {2, 2, 1, 5}, {2, 2, 2, 6}, {3, 1, 1, 4}, {9, 4, 5, 18},
            {9, 4, 4, 16}};
        for (int[] c : circles) {
            three.costs(c[0], c[1], c[2]);
            t.due("a circle, move " + c[0], three.passage(4, 6), c[3]);
        }
        // A circle of three without a free register.
        three.costs(1, 2, 2);
        t.due("a full circle", three.passage(10, 13), 2 + 2 + 2);
        three.costs(9, 1, 2);
        t.due("a full circle by memory", three.passage(10, 13), 9);

        t.of("STATES", "Each cell of the stack has a place in memory, which is good or not.");
        StackStates y = with(3);
        y.costs(9, 2, 3);
        t.due("good places are not stored again", y.passage(0, 0), 0);
        t.due("a bad place is stored once", y.passage(1, 0), 3);
        t.due("three bad places", y.passage(10, 0), 9);
    }

    private void steps() {
        t.of("STATES", "A move lets a register hold the cell that another register holds (the other one still holds it,"
                + " too); a load lets a register hold a cell whose place is good; a store makes the place of a cell that a"
                + " register holds good.");
        StackStates x = with(3);
        x.costs(1, 5, 9);
        t.due("a move", x.passage(1, 2), 1);
        t.due("a chain of moves", x.passage(4, 7), 2);
        t.due("a chain of moves, the top cell first", x.passage(4, 8), 2);
        t.due("a circle, with a free register", x.passage(4, 6), 3);
        t.due("a circle, then a load behind it", x.passage(4, 12), 3 + 5);
        t.due("a circle behind a store", x.passage(10, 6), 9 + 3);
        t.due("a load", x.passage(0, 3), 5);
        t.due("three loads", x.passage(0, 15), 15);
        t.due("a store", x.passage(3, 0), 9);
        t.due("a load under the top cell", x.passage(1, 4), 5);
        t.due("a load under the top cell, which moves", x.passage(1, 6), 6);
        t.due("a circle of three with no free register", x.passage(10, 14), 9 + 5 + 2);

        t.of("STATES", "At the beginning the registers hold the cells as s tells, other registers hold nothing, and exactly"
                + " the places of those cells are good that s does not hold.");
        t.due("the cells of s have no good places", x.passage(10, 0), 27);
        t.due("the others have", x.passage(1, 10), 10);
        t.due("the same state", x.passage(10, 10), 0);
        t.due("a register that holds nothing does not help", x.passage(0, 1), 5);

        t.of("STATES", "At the end the registers of t must hold the cells as t tells, and the places of all cells that t"
                + " does not hold must be good; other registers may hold anything.");
        t.due("the lower cell is stored", x.passage(4, 1), 9);
        t.due("the lower cells are stored", x.passage(10, 1), 18);
        t.due("the top cell moves over it", x.passage(4, 2), 9 + 1);
        t.due("the other registers do not matter", x.passage(4, 3), 9 + 1);
        for (int r = 1; r <= 3; r++) {
            StackStates y = with(r);
            y.costs(0, 0, 0);
            for (int s = 0; s < y.states(); s++) {
                t.due("all for nothing", y.passage(s, y.states() - 1 - s), 0);
                t.due("to itself", y.passage(s, s), 0);
            }
        }
    }

    // ---- CHOICES

    private void choices() {
        t.of("CHOICES", "A choice gives a state to each reached instruction: state 0 to instruction 0, and to each one a"
                + " state with at most as many registers as its depth, in which it has a version.");
        for (int r = 1; r <= 3; r++) {
            // The depths are 0, 1, 2, 3, 4, 4; h has a version in all states, and n where a register is free.
            StackStates x = Check.laid("n01n02n03n04j05h");
            x.registers(r);
            for (int s = 0; s < x.states(); s++) {
                int held = x.state(s, -1);
                t.due("instruction 0, state " + s, x.ifMeets(0, s) == NONE ? 0 : 1, s == 0 ? 1 : 0);
                for (int i = 1; i < 6; i++) {
                    boolean may = held <= i && (i >= 4 || held < r);
                    t.due("instruction " + i + ", state " + s, x.ifMeets(i, s) == NONE ? 0 : 1, may ? 1 : 0);
                }
            }
        }
        // Jumps have versions in all states: only their depths, 2 and 1, say no.
        StackStates y = Check.laid("n01n02j03wj05h");
        y.registers(3);
        t.due("two registers at depth 2", y.ifMeets(2, 6) == NONE ? 0 : 1, 1);
        t.due("three registers at depth 2", y.ifMeets(2, 15), NONE);
        t.due("one register at depth 1", y.ifMeets(4, 3) == NONE ? 0 : 1, 1);
        t.due("two registers at depth 1", y.ifMeets(4, 4), NONE);
        StackStates none = Check.laid("j02hh");
        t.due("not reached", none.ifMeets(1, 0), NONE);
        t.due("a register at depth 0", none.ifMeets(2, 1), NONE);
    }

    private void costOfChoices() {
        t.of("CHOICES", "The cost of a choice is the sum over all reached instructions of weight * (the cost of its version"
                + " + the transition costs from the state that it leaves to the state of each instruction that can follow;"
                + " for a branch both, even if they are the same one).");
        t.due("an instruction that nothing follows", Check.laid("h").best(), 0);
        // One register: n leaves a cell there, which is stored before the next n; + is plain; w loads its cell.
        StackStates x = Check.laid("n01n02+w");
        x.registers(1);
        x.costs(0, 3, 5);
        t.due("weights 1", x.best(), 5 + 5 + (2 * 3 + 5) + 3);
        x.weigh(0, 10);
        t.due("the transition behind the first n", x.best(), 50 + 5 + 11 + 3);
        x.weigh(2, 100);
        t.due("the version of +, and w is plain", x.best(), 50 + 5 + 1100 + 3);
        x.weigh(3, 1000 - 1);
        t.due("+ loads the cell for w", x.best(), 50 + 5 + 1100 + 300);
        // Both ways of a branch lead to the next instruction, and are paid twice.
        StackStates branch = Check.laid("n01n02n03b04+w");
        t.due("a branch to the next one", branch.best(), 2 + 2 * 2);
        branch.weigh(3, 50);
        t.due("weighted, + is plain", branch.best(), 2 + 2 + 2 * 2 + 2 + 2);
        // What is not reached is not counted.
        StackStates rest = Check.laid("hn01n02+w");
        rest.registers(1);
        t.due("not reached", rest.best(), 0);
        // Only the jump leads to 2, as 1 is not reached: two cells are stored and loaded.
        StackStates led = Check.laid("j02pn01n02n03www");
        led.registers(1);
        t.due("behind one that is not reached", led.best(), 2 * 2 + 2 * 2);
        t.due("a copy behind a jump, whose cell is held", Check.laid("n01j03hdww").best(), 1);
    }

    private void weights() {
        t.of("CHOICES", "Weights are 1 to 999; 1 at first.");
        StackStates x = new StackStates();
        for (int i = 0; i < 16; i++) t.due("weight " + i, x.code(i, 4), 1);
        t.due("weigh(5, 0)", x.weigh(5, 0), BAD);
        t.due("weigh(5, 999)", x.weigh(5, 999), 1);
        t.due("weigh(5, 1000)", x.weigh(5, 1000), BAD);
        t.due("weigh(5, 1)", x.weigh(5, 1), 999);
        // The dearest program: 21 times r, each with 3 loads and 3 stores.
        StackStates dear = Check.laid("n01n02n03" + "r".repeat(21));
        dear.registers(1);
        dear.costs(9, 9, 9);
        for (int i = 0; i < 24; i++) dear.weigh(i, 999);
        t.due("all weights 999", dear.best(), 999 * (3 * 9 + 21 * 54));
        t.due("the last one", dear.ifMeets(23, 0), 999 * (3 * 9 + 21 * 54));
    }

    private void chosen(StackStates x, int... due) {
        for (int i = 0; i < due.length; i++) t.due("meets(" + i + ", 0)", x.meets(i, 0), due[i]);
    }

    private void ties() {
        t.of("CHOICES", "The best choice is the cheapest one; of several the one in which the smaller target has the"
                + " smallest state, then the other target, then instruction 0, 1, and so on.");
        // One of three cells is stored, before n02 (then the last one has state 4) or before n03 (then 3).
        chosen(Check.laid("n01n02n03h"), 0, 0, 1, 4);
        chosen(Check.laid("n01n02n03j03"), 0, 1, 2, 3);
        // The same behind a smaller target, which has state 0.
        chosen(Check.laid("j01n01n02n03j04"), 0, 0, 1, 2, 3);
        // The smaller target, 2, would have state 2 if 4 had state 3.
        chosen(Check.laid("g0n00g0j04b02"), 0, 0, 1, 4, 4);
        // Nothing costs anything.
        StackStates free = Check.laid("n01n02n03n04j04");
        free.registers(3);
        free.costs(0, 0, 0);
        chosen(free, 0, 0, 0, 0, 0);
    }

    // ---- promises 13 to 19

    private void stateAnswers() {
        t.ofPromise(13, "Returns the number of states. Returns the number.");
        t.due("one register", with(1).states(), 2);
        t.due("two registers", with(2).states(), 5);
        t.due("three registers", with(3).states(), 16);
        StackStates x = with(3);
        x.undo();
        t.due("undone", x.states(), 5);

        t.ofPromise(14, "Returns a register of a state. - `s`: number of the state - `i`: index, 0 for the register that"
                + " holds the top cell; -1 for the number of registers Returns the register, or the number");
        for (int r = 1; r <= 3; r++) {
            StackStates y = with(r);
            for (int s = 0; s < STATES[r - 1].length; s++) {
                String name = STATES[r - 1][s];
                t.due("state(" + s + ", -1)", y.state(s, -1), name.length());
                for (int i = 0; i < name.length(); i++) {
                    t.due("state(" + s + ", " + i + ")", y.state(s, i), name.charAt(i) - '0');
                }
            }
        }

        t.ofPromise(14, "NONE if there are not so many");
        for (int r = 1; r <= 3; r++) {
            StackStates y = with(r);
            for (int s = 0; s < STATES[r - 1].length; s++) {
                int held = STATES[r - 1][s].length();
                for (int i : new int[] {held, held + 1, 3, HIGH}) t.due("state(" + s + ", " + i + ")", y.state(s, i), NONE);
            }
        }

        t.ofPromise(14, "BAD if there is no such state, or i is less than -1");
        for (int r = 1; r <= 3; r++) {
            StackStates y = with(r);
            int n = STATES[r - 1].length;
            for (int s : new int[] {-1, n, n + 1, LOW, HIGH}) {
                for (int i : new int[] {-2, -1, 0, 3}) t.due("state(" + s + ", " + i + ")", y.state(s, i), BAD);
            }
            for (int i : new int[] {-2, -3, LOW}) {
                t.due("state(0, " + i + ")", y.state(0, i), BAD);
                t.due("the last state, " + i, y.state(n - 1, i), BAD);
            }
        }
    }

    private void passageAnswers() {
        t.ofPromise(15, "Returns the transition cost from one state to another. - `s`: number of a state - `t`: number of a"
                + " state, also the same one Returns the cost");
        StackStates x = with(1);
        x.costs(1, 3, 5);
        int[][] one = {{0, 3}, {5, 0}};
        for (int s = 0; s < 2; s++) {
            for (int u = 0; u < 2; u++) t.due("passage(" + s + ", " + u + ")", x.passage(s, u), one[s][u]);
        }
        StackStates y = with(2);
        y.costs(1, 3, 5);
        int[][] two = {{0, 3, 3, 6, 6}, {5, 0, 1, 3, 4}, {5, 1, 0, 4, 3}, {10, 5, 6, 0, 9}, {10, 6, 5, 9, 0}};
        for (int s = 0; s < 5; s++) {
            for (int u = 0; u < 5; u++) t.due("passage(" + s + ", " + u + ")", y.passage(s, u), two[s][u]);
        }

        t.ofPromise(15, "BAD if there is no such state");
        for (int r = 1; r <= 3; r++) {
            StackStates z = with(r);
            int n = STATES[r - 1].length;
            for (int s : new int[] {-1, n, n + 1, LOW, HIGH}) {
                t.due("passage(" + s + ", 0)", z.passage(s, 0), BAD);
                t.due("passage(0, " + s + ")", z.passage(0, s), BAD);
                t.due("passage(" + s + ", " + s + ")", z.passage(s, s), BAD);
            }
            t.due("the last one", z.passage(n - 1, n - 1), 0);
        }
    }

    private void versionAnswers() {
        t.ofPromise(16, "Returns a property of the version of an instruction in a state. - `i`: number of the instruction,"
                + " reached or not - `s`: number of the state - `what`: 0: the state that it leaves; 1: its cost; 2: 1 if it"
                + " is plain, 0 if not Returns the property");
        StackStates x = Check.laid("n01hd");
        int[] n = {4, 0, 0};
        int[] d = {0, 2 + 2 * 2, 1};
        int[] copy = {3, 1, 0};
        for (int what = 0; what < 3; what++) {
            t.due("n, reached", x.version(0, 1, what), n[what]);
            t.due("d, not reached", x.version(2, 0, what), d[what]);
            t.due("d, not reached, in registers", x.version(2, 2, what), copy[what]);
        }

        t.ofPromise(16, "NONE if it has no version");
        for (int what = 0; what < 3; what++) {
            for (int s = 3; s < 5; s++) {
                t.due("n without a free register", x.version(0, s, what), NONE);
                t.due("d without a free register", x.version(2, s, what), NONE);
            }
        }

        t.ofPromise(16, "BAD if an argument is out of range");
        for (int i : new int[] {-1, 3, 4, 24, LOW, HIGH}) t.due("instruction " + i, x.version(i, 0, 0), BAD);
        for (int s : new int[] {-1, 5, 6, LOW, HIGH}) t.due("state " + s, x.version(0, s, 0), BAD);
        for (int what : new int[] {-1, 3, 4, LOW, HIGH}) {
            t.due("what " + what, x.version(0, 0, what), BAD);
            t.due("no version, what " + what, x.version(0, 4, what), BAD);
        }
        t.due("the last state", x.version(1, 4, 0), 4);
        x.registers(1);
        t.due("the last state", x.version(1, 1, 0), 1);
        t.due("no such state now", x.version(1, 2, 0), BAD);
        x.registers(3);
        t.due("the last state", x.version(1, 15, 0), 15);
        t.due("no such state", x.version(1, 16, 0), BAD);
        StackStates full = Check.laid("h".repeat(24));
        t.due("the 24th", full.version(23, 0, 0), 0);
        t.due("a 25th", full.version(24, 0, 0), BAD);
    }

    private void bestAnswers() {
        t.ofPromise(17, "Returns the cost of the best choice. Returns the cost.");
        StackStates x = new StackStates();
        t.due("at first", x.best(), 1);
        t.due("again", x.best(), 1);
        x.weigh(7, 999);
        t.due("d is weighted", x.best(), 999);
        x.costs(0, 2, 2);
        t.due("a move of 0", x.best(), 0);
        x.undo();
        t.due("undone", x.best(), 999);
        t.due("one instruction", Check.laid("h").best(), 0);
        // Nine of twelve cells are stored and loaded again.
        StackStates full = Check.laid("n01".repeat(12) + "w".repeat(12));
        full.registers(3);
        t.due("24 instructions, three registers", full.best(), 9 * 2 + 9 * 2);
        full.registers(1);
        t.due("24 instructions, one register", full.best(), 11 * 2 + 11 * 2);
        afterOthers();
    }

    // An object that had other programs and other registers before answers as a new one.
    private void afterOthers() {
        String[] texts = {"n01n02n03j04d+b07wh", "g0n00g0j04b02", "j02n01h", "n01n02b03h", "n01n02n03r*b06w", "n01j03hdww"};
        for (int r : new int[] {1, 3, 2, 1, 2, 3}) {
            StackStates used = new StackStates();
            for (String text : texts) {
                for (int other = 1; other <= 3; other++) {
                    used.registers(other);
                    used.ifMeets(0, 0);
                }
                used.registers(r);
                Check.rewrite(used, text);
                used.lay();
                StackStates fresh = Check.laid(text);
                fresh.registers(r);
                t.due("best() of " + text, used.best(), fresh.best());
                for (int i = 0; i < fresh.count(0); i++) {
                    t.due("meets(" + i + ", 0) of " + text, used.meets(i, 0), fresh.meets(i, 0));
                    t.due("ifMeets(" + i + ", 1) of " + text, used.ifMeets(i, 1), fresh.ifMeets(i, 1));
                    int last = fresh.states() - 1;
                    t.due("ifMeets(" + i + ", " + last + ") of " + text, used.ifMeets(i, last), fresh.ifMeets(i, last));
                }
            }
        }
    }

    private void meetsAnswers() {
        t.ofPromise(18, "Returns a state of an instruction by the best choice. - `i`: number of the instruction - `what`: 0:"
                + " the state that the choice gives to it; 1: the state that its version leaves Returns the state");
        StackStates x = new StackStates();
        int[] states = {0, 1, 0, 1, 0, 1, 4, 1, 4, 1, 0, 1, 4, 1, 0, 0};
        int[] left = {1, 0, 1, 0, 1, 4, 1, 4, 1, 0, 1, 4, 1, 0, 0, 0};
        for (int i = 0; i < 16; i++) {
            t.due("meets(" + i + ", 0)", x.meets(i, 0), states[i]);
            t.due("meets(" + i + ", 1)", x.meets(i, 1), left[i]);
        }
        // The last instruction's version leaves a state, too, though nothing follows.
        t.due("the last n", Check.laid("n01n02").meets(1, 1), 4);

        t.ofPromise(18, "NONE if the instruction is not reached");
        StackStates some = Check.laid("j02n01h");
        for (int what = 0; what < 2; what++) {
            t.due("not reached", some.meets(1, what), NONE);
            t.due("reached", some.meets(2, what), 0);
        }

        t.ofPromise(18, "BAD if an argument is out of range");
        for (int what = 0; what < 2; what++) {
            for (int i : new int[] {-1, 16, 17, 24, LOW, HIGH}) t.due("meets(" + i + ")", x.meets(i, what), BAD);
            t.due("behind the last", some.meets(3, what), BAD);
        }
        for (int what : new int[] {-1, 2, 3, LOW, HIGH}) {
            t.due("what " + what, x.meets(0, what), BAD);
            t.due("what " + what, x.meets(15, what), BAD);
            t.due("not reached, what " + what, some.meets(1, what), BAD);
        }
        StackStates full = Check.laid("h".repeat(24));
        t.due("the 24th", full.meets(23, 0), NONE);
        t.due("a 25th", full.meets(24, 0), BAD);
    }

    private void ifMeetsAnswers() {
        t.ofPromise(19, "Returns the smallest cost of a choice that gives a certain state to an instruction. - `i`: number"
                + " of the instruction - `s`: number of the state Returns the cost");
        StackStates x = new StackStates();
        t.due("the chosen one", x.ifMeets(1, 1), 1);
        t.due("another register", x.ifMeets(1, 2), 1 + 1);
        t.due("by memory", x.ifMeets(1, 0), 1 + 2 + 2);
        t.due("the order of two", x.ifMeets(6, 3), 1 + 1);
        t.due("plain *", x.ifMeets(6, 0) > 1 + 2 * 2 ? 1 : 0, 1);
        for (int i = 0; i < 16; i++) t.due("the best choice's state", x.ifMeets(i, x.meets(i, 0)), x.best());
        x.weigh(0, 999);
        t.due("a weighted move", x.ifMeets(1, 2), 1 + 999);
        t.due("a weighted store", x.ifMeets(1, 0), 1 + 2 * 999 + 2);
        StackStates led = Check.laid("n01j03hdww");
        int[][] behindJump = {{12, 1, 2, NONE, NONE}, {5, 1, 2, NONE, NONE}};
        StackStates branch = Check.laid("n01n02n03b04+w");
        int[][] behindBranch = {{12, NONE, NONE, 6, 6}, {6 + 2 + 2, 6, 7, NONE, NONE}};
        for (int s = 0; s < 5; s++) {
            t.due("d behind a jump, state " + s, led.ifMeets(3, s), behindJump[0][s]);
            t.due("the last w behind a jump, state " + s, led.ifMeets(5, s), behindJump[1][s]);
            t.due("+ behind a branch, state " + s, branch.ifMeets(4, s), behindBranch[0][s]);
            t.due("w behind a branch, state " + s, branch.ifMeets(5, s), behindBranch[1][s]);
        }

        t.ofPromise(19, "NONE if the instruction is not reached, or there is no such choice");
        StackStates some = Check.laid("j02n01h");
        for (int s = 0; s < 5; s++) t.due("not reached, state " + s, some.ifMeets(1, s), NONE);
        for (int s = 1; s < 5; s++) {
            t.due("instruction 0, state " + s, x.ifMeets(0, s), NONE);
            t.due("depth 0, state " + s, x.ifMeets(2, s), NONE);
            t.due("depth 1, state " + s, x.ifMeets(1, s) == NONE ? 1 : 0, s > 2 ? 1 : 0);
            t.due("no version, state " + s, x.ifMeets(6, s) == NONE ? 1 : 0, s < 3 ? 1 : 0);
        }

        t.ofPromise(19, "BAD if an argument is out of range");
        for (int i : new int[] {-1, 16, 17, 24, LOW, HIGH}) t.due("ifMeets(" + i + ", 0)", x.ifMeets(i, 0), BAD);
        for (int s : new int[] {-1, 5, 6, 16, LOW, HIGH}) {
            t.due("ifMeets(0, " + s + ")", x.ifMeets(0, s), BAD);
            t.due("not reached, " + s, some.ifMeets(1, s), BAD);
        }
        some.registers(3);
        t.due("the last state", some.ifMeets(2, 15), NONE);
        t.due("behind it", some.ifMeets(2, 16), BAD);
        some.registers(1);
        t.due("the last state", some.ifMeets(2, 1), NONE);
        t.due("behind it", some.ifMeets(2, 2), BAD);
        StackStates full = Check.laid("h".repeat(24));
        t.due("the 24th", full.ifMeets(23, 0), NONE);
        t.due("a 25th", full.ifMeets(24, 0), BAD);
    }
}
