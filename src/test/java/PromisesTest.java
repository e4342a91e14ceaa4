/** Each promise by itself: ordinary inputs, the edges that the document names, and wrong inputs. */
public final class PromisesTest {
    private static final int BAD = StackStates.BAD;
    private static final int NO = StackStates.NO;
    private static final int FULL = StackStates.FULL;
    private static final int NONE = StackStates.NONE;
    private static final int LOW = Integer.MIN_VALUE;
    private static final int HIGH = Integer.MAX_VALUE;
    private static final Check check = new Check();

    public static void main(String[] args) {
        newObject();
        writing();
        wiping();
        faults();
        laying();
        flaws();
        causes();
        codes();
        registers();
        costs();
        weights();
        profiles();
        undoing();
        states();
        passages();
        versions();
        versionsOfThree();
        best();
        meetings();
        ifMeetings();
        starts();
        steps();
        endsBeforeOutput();
        figures();
        cells();
        arithmetic();
        registerCells();
        memoryCells();
        variables();
        outputs();
        wentCounts();
        counts();
        endsOfRuns();
        largest();
        check.end();
    }

    private static void newObject() {
        check.about("promise 1");
        StackStates x = new StackStates();
        int[] counts = {16, 2, 1, 2, 2, 16, 2, 0, 0, 0, 0};
        for (int what = 0; what < counts.length; what++) check.due("count " + what, x.count(what), counts[what]);
        String signs = "nsgbgn*dwpgn-sjh";
        int[] numbers = {5, 0, 0, 15, 0, 3, NONE, NONE, NONE, NONE, 0, 1, NONE, 0, 2, NONE};
        int[] depths = {0, 1, 0, 1, 0, 1, 2, 1, 2, 1, 0, 1, 2, 1, 0, 0};
        for (int i = 0; i < 16; i++) {
            check.due("sign " + i, x.code(i, 0), signs.charAt(i));
            check.due("number " + i, x.code(i, 1), numbers[i]);
            check.due("depth " + i, x.code(i, 2), depths[i]);
            check.due("target " + i, x.code(i, 3), i == 2 || i == 15 ? 1 : 0);
            check.due("weight " + i, x.code(i, 4), 1);
        }
        check.due("fault()", x.fault(), NONE);
        check.due("step(1)", x.step(1), NO);
    }

    private static void writing() {
        check.about("promise 2");
        StackStates x = new StackStates();
        for (int letter : new int[] {31, 127, 0, -1, LOW, HIGH}) check.due("write", x.write(letter), BAD);
        check.due("write(32)", x.write(32), 1);
        check.due("write(126)", x.write(126), 2);
        for (int k = 3; k <= 200; k++) check.due("write", x.write('h'), k);
        check.due("write at 200", x.write('h'), FULL);
        check.due("wrong and full", x.write(127), BAD);
        check.due("count(8)", x.count(8), 200);
    }

    private static void wiping() {
        check.about("promise 3");
        StackStates x = new StackStates();
        check.due("wipe()", x.wipe(), 0);
        Check.rewrite(x, "n01");
        check.due("wipe()", x.wipe(), 3);
        check.due("wipe()", x.wipe(), 0);
        check.due("count(8)", x.count(8), 0);
        check.due("the program stays", x.count(0), 16);
        check.due("write", x.write('h'), 1);
        check.due("lay()", x.lay(), 1);
    }

    private static void fault(String text, int place, int reason) {
        StackStates x = new StackStates();
        Check.rewrite(x, text);
        check.due("fault of " + text, x.fault(), place);
        check.due("causes of " + text, x.count(9), place == NONE ? 0 : 2);
        check.due("cause 0 of " + text, x.cause(0), place == NONE ? NONE : 1);
        check.due("cause 1 of " + text, x.cause(1), place == NONE ? NONE : reason);
        if (place != NONE) {
            check.due("lay of " + text, x.lay(), NO);
            check.due("cause 0 of " + text, x.cause(0), 1);
            check.due("cause 1 of " + text, x.cause(1), reason);
            check.due("cause 2 of " + text, x.cause(2), NONE);
        }
    }

    private static void faults() {
        check.about("promise 4");
        fault("", NONE, 0);
        fault("n99g3s0j00b00+-*dxporwh", NONE, 0);
        fault("q", 0, 10);
        fault("h ", 1, 10);
        fault("N01", 0, 10);
        fault("5", 0, 10);
        for (String text : new String[] {"n", "n1", "n1h", "nh1", "g", "gh", "s", "s-", "j", "j0", "b", "b1x"}) {
            fault("hh" + text, 2, 11);
        }
        fault("n0/", 0, 11);
        fault("n:0", 0, 11);
        fault("g4", 0, 12);
        fault("hs9", 1, 12);
        fault("j01", 0, 14);
        fault("hj99h", 1, 14);
        fault("hb04j02j05", 1, 14);
        fault("hj02j03", 4, 14);
        fault("j05q", 3, 10);
        fault("j09g7", 3, 12);
        String most = "h".repeat(24);
        fault(most, NONE, 0);
        fault(most + "h", 24, 13);
        fault(most + "q", 24, 13);
        fault(most + "n", 24, 13);
        fault("n00".repeat(24) + " ", 72, 13);
        fault("j24" + "h".repeat(23), 0, 14);
        fault("j23" + "h".repeat(23), NONE, 0);
        fault("j99" + "h".repeat(24), 26, 13);
        fault("qq", 0, 10);
    }

    private static void laying() {
        check.about("promise 5");
        StackStates x = new StackStates();
        x.registers(3);
        x.costs(3, 4, 5);
        x.weigh(2, 9);
        x.start();
        Check.rewrite(x, "n01wh");
        check.due("lay()", x.lay(), 3);
        check.due("R", x.count(1), 3);
        check.due("costs", x.costs(0, 0, 0), 345);
        check.due("undo()", x.undo(), 0);
        check.due("undo()", x.undo(), NO);
        check.due("weight", x.code(2, 4), 1);
        check.due("the text stays", x.count(8), 5);
        check.due("the run is gone", x.count(10), 0);
        check.due("causes", x.count(9), 0);
        check.due("lay() again", x.lay(), 3);
        x.weigh(1, 7);
        x.start();
        x.step(1);
        Check.rewrite(x, "p");
        check.due("lay() with a flaw", x.lay(), NO);
        check.due("weight stays", x.code(1, 4), 7);
        check.due("change stays", x.count(7), 1);
        check.due("run stays", x.now(4), 1);
        check.due("program stays", x.count(0), 3);
        x.wipe();
        check.due("lay() of nothing", x.lay(), NO);
        check.due("cause(0)", x.cause(0), 2);
        check.due("cause(1)", x.cause(1), NONE);
        check.due("run stays", x.count(10), 1);
        Check.rewrite(x, "q");
        check.due("lay() with a fault", x.lay(), NO);
        check.due("run stays", x.count(10), 1);
        Check.rewrite(x, "h".repeat(24));
        check.due("lay() of 24", x.lay(), 24);
        check.due("reached", x.count(5), 1);
    }

    private static void flaw(String text, int kind, int number) {
        StackStates x = new StackStates();
        Check.rewrite(x, text);
        check.due("fault of " + text, x.fault(), NONE);
        check.due("lay of " + text, x.lay(), NO);
        check.due("causes of " + text, x.count(9), 3);
        check.due("cause 0 of " + text, x.cause(0), 3);
        check.due("cause 1 of " + text, x.cause(1), kind);
        check.due("cause 2 of " + text, x.cause(2), 30 + number);
        check.due("program after " + text, x.count(0), 16);
    }

    private static void flaws() {
        check.about("promise 5, flaws");
        for (String text : new String[] {"+", "-", "*", "d", "x", "p", "o", "r", "s0", "b00", "w"}) flaw(text, 22, 0);
        for (String text : new String[] {"+", "-", "*", "x", "o", "r"}) flaw("n01" + text, 22, 1);
        flaw("n01n01r", 22, 2);
        flaw("n01".repeat(13), 22, 12);
        flaw("n01".repeat(12) + "d", 22, 12);
        flaw("n01".repeat(12) + "o", 22, 12);
        flaw("n01".repeat(12) + "g0", 22, 12);
        check.due("12 cells", Check.laid("n01".repeat(12) + "xr").count(5), 14);
        flaw("n01j00", 21, 0);
        flaw("n01n01b00", 21, 0);
        flaw("j02hn01j02", 21, 2);
        flaw("g0b04g0b05g0b06h", 21, 5);
        // Both instructions that can follow the second branch have another depth: the next one is first.
        flaw("g0b05n01n01b00h", 21, 5);
        // The smaller one of the instructions that are known is considered first, not the one known first.
        flaw("j02pg0b01p", 22, 1);
        flaw("g0b03pp", 22, 2);
        flaw("g0b04g0b06g0b08g0b10hhh", 23, 4);
        flaw("g0b02g0b04g0b06h", 23, 3);
        check.due("two targets", Check.laid("g0b02g0b04g0b04h").count(6), 2);
        // Jumps that are not reached have no targets, and what is not reached has no flaw.
        check.due("unreached", Check.laid("j03j01j02j04h").count(6), 2);
        check.due("unreached", Check.laid("h++++").count(5), 1);
    }

    private static void causes() {
        check.about("promise 6");
        StackStates x = new StackStates();
        check.due("cause(0)", x.cause(0), NONE);
        check.due("cause(-1)", x.cause(-1), BAD);
        check.due("cause(LOW)", x.cause(LOW), BAD);
        check.due("cause(HIGH)", x.cause(HIGH), NONE);
        Check.rewrite(x, "p");
        x.lay();
        check.due("cause(2)", x.cause(2), 30);
        check.due("cause(3)", x.cause(3), NONE);
        Check.rewrite(x, "h");
        check.due("writing leaves them", x.count(9), 3);
        x.undo();
        check.due("undo leaves them", x.cause(1), 22);
        check.due("fault()", x.fault(), NONE);
        check.due("fault clears them", x.count(9), 0);
        Check.rewrite(x, "p");
        x.lay();
        Check.rewrite(x, "h");
        check.due("lay()", x.lay(), 1);
        check.due("lay clears them", x.cause(0), NONE);
        Check.rewrite(x, "p");
        x.lay();
        check.due("fault() knows no flaws", x.fault(), NONE);
        check.due("cause(0)", x.cause(0), NONE);
    }

    private static void codes() {
        check.about("promise 7");
        StackStates x = Check.laid("n07j04g3hs2");
        x.registers(3);
        for (int i : new int[] {-1, 5, 24, LOW, HIGH}) check.due("code(" + i + ", 0)", x.code(i, 0), BAD);
        for (int what : new int[] {-1, 5, LOW, HIGH}) check.due("code(0, " + what + ")", x.code(0, what), BAD);
        check.due("code(0, 1)", x.code(0, 1), 7);
        check.due("code(1, 1)", x.code(1, 1), 4);
        check.due("code(2, 1)", x.code(2, 1), 3);
        check.due("code(3, 1)", x.code(3, 1), NONE);
        check.due("code(4, 1)", x.code(4, 1), 2);
        check.due("code(1, 2)", x.code(1, 2), 1);
        check.due("code(2, 2)", x.code(2, 2), NONE);
        check.due("code(3, 2)", x.code(3, 2), NONE);
        check.due("code(4, 2)", x.code(4, 2), 1);
        check.due("code(4, 3)", x.code(4, 3), 1);
        check.due("code(3, 3)", x.code(3, 3), 0);
        x.weigh(2, 999);
        check.due("code(2, 4)", x.code(2, 4), 999);
        check.due("code(2, 0)", x.code(2, 0), 'g');
        check.due("number 0", Check.laid("n00g0h").code(0, 1), 0);
    }

    private static void registers() {
        check.about("promise 8");
        StackStates x = new StackStates();
        for (int r : new int[] {0, 4, -1, LOW, HIGH}) check.due("registers(" + r + ")", x.registers(r), BAD);
        check.due("registers(2)", x.registers(2), NO);
        check.due("changes", x.count(7), 0);
        check.due("registers(3)", x.registers(3), 2);
        check.due("registers(1)", x.registers(1), 3);
        check.due("registers(1)", x.registers(1), NO);
        check.due("count(1)", x.count(1), 1);
        check.due("changes", x.count(7), 2);
    }

    private static void costs() {
        check.about("promise 9");
        StackStates x = new StackStates();
        for (int c : new int[] {-1, 10, LOW, HIGH}) {
            check.due("move " + c, x.costs(c, 2, 2), BAD);
            check.due("load " + c, x.costs(1, c, 2), BAD);
            check.due("store " + c, x.costs(1, 2, c), BAD);
        }
        check.due("the same", x.costs(1, 2, 2), NO);
        check.due("changes", x.count(7), 0);
        check.due("costs(9, 0, 9)", x.costs(9, 0, 9), 122);
        check.due("costs(9, 0, 8)", x.costs(9, 0, 8), 909);
        check.due("costs(0, 0, 8)", x.costs(0, 0, 8), 908);
        check.due("costs(0, 1, 8)", x.costs(0, 1, 8), 8);
        check.due("costs(0, 1, 8)", x.costs(0, 1, 8), NO);
        for (int what = 2; what <= 4; what++) check.due("count", x.count(what), new int[] {0, 1, 8}[what - 2]);
        check.due("changes", x.count(7), 4);
    }

    private static void weights() {
        check.about("promise 10");
        StackStates x = new StackStates();
        for (int i : new int[] {-1, 16, LOW, HIGH}) check.due("weigh(" + i + ", 5)", x.weigh(i, 5), BAD);
        for (int w : new int[] {0, 1000, -1, LOW, HIGH}) check.due("weigh(0, " + w + ")", x.weigh(0, w), BAD);
        check.due("weigh(0, 1)", x.weigh(0, 1), NO);
        check.due("weigh(15, 999)", x.weigh(15, 999), 1);
        check.due("weigh(15, 999)", x.weigh(15, 999), NO);
        check.due("weigh(15, 1)", x.weigh(15, 1), 999);
        check.due("weigh(0, 2)", x.weigh(0, 2), 1);
        check.due("changes", x.count(7), 3);
        check.due("code(0, 4)", x.code(0, 4), 2);
    }

    private static void profiles() {
        check.about("promise 11");
        StackStates x = new StackStates();
        check.due("no run", x.profile(), NO);
        x.start();
        check.due("nothing executed", x.profile(), NO);
        check.due("the run stays", x.count(10), 1);
        x.step(2);
        check.due("two executed", x.profile(), 2);
        check.due("the run is gone", x.count(10), 0);
        int[] weights = {2, 2, 1};
        for (int i = 0; i < 3; i++) check.due("weight " + i, x.code(i, 4), weights[i]);
        x.start();
        x.step(2);
        check.due("the same weights", x.profile(), NO);
        x.start();
        check.due("back to 1", x.profile(), 2);
        check.due("weight 0", x.code(0, 4), 1);
        check.due("undo()", x.undo(), 1);
        check.due("weight 0", x.code(0, 4), 2);

        StackStates loop = Check.laid("n01j01h");
        loop.weigh(2, 5);
        loop.start();
        for (int k = 0; k < 3; k++) loop.step(500);
        check.due("went(1)", loop.went(1), 1499);
        check.due("profile()", loop.profile(), 3);
        check.due("at most 999", loop.code(1, 4), 999);
        check.due("not executed", loop.code(2, 4), 1);
    }

    private static void undoing() {
        check.about("promise 12");
        StackStates x = new StackStates();
        check.due("undo()", x.undo(), NO);
        x.start();
        check.due("undo()", x.undo(), NO);
        check.due("the run stays", x.count(10), 1);
        for (int k = 1; k <= 8; k++) {
            x.weigh(0, 1 + k);
            check.due("changes", x.count(7), Math.min(k, 6));
        }
        x.start();
        for (int k = 1; k <= 6; k++) {
            check.due("undo()", x.undo(), 6 - k);
            check.due("weight", x.code(0, 4), 9 - k);
            check.due("the run is gone", x.count(10), 0);
        }
        check.due("undo()", x.undo(), NO);
        check.due("weight", x.code(0, 4), 3);

        x.registers(1);
        x.costs(7, 8, 9);
        x.weigh(3, 33);
        check.due("undo()", x.undo(), 2);
        check.due("weight 3", x.code(3, 4), 1);
        check.due("costs stay", x.count(2), 7);
        check.due("undo()", x.undo(), 1);
        check.due("costs(1, 2, 2)", x.costs(1, 2, 2), NO);
        check.due("R", x.count(1), 1);
        x.weigh(5, 6);
        check.due("undo()", x.undo(), 1);
        check.due("weight 5", x.code(5, 4), 1);
        check.due("undo()", x.undo(), 0);
        check.due("R", x.count(1), 2);
        check.due("states()", x.states(), 5);
        check.due("passage(3, 4)", x.passage(3, 4), 5);
    }

    private static void states() {
        check.about("promises 13 and 14");
        String[][] names = {
            {"", "0"},
            {"", "0", "1", "01", "10"},
            {"", "0", "1", "2", "01", "02", "10", "12", "20", "21", "012", "021", "102", "120", "201", "210"}};
        for (int r = 1; r <= 3; r++) {
            StackStates x = new StackStates();
            x.registers(r);
            String[] all = names[r - 1];
            check.due("states()", x.states(), all.length);
            for (int s = 0; s < all.length; s++) {
                check.due("state(" + s + ", -1)", x.state(s, -1), all[s].length());
                for (int i = 0; i < 5; i++) {
                    int due = i < all[s].length() ? all[s].charAt(i) - '0' : NONE;
                    check.due("state(" + s + ", " + i + ")", x.state(s, i), due);
                }
                check.due("state(" + s + ", -2)", x.state(s, -2), BAD);
                check.due("state(" + s + ", LOW)", x.state(s, LOW), BAD);
                check.due("state(" + s + ", HIGH)", x.state(s, HIGH), NONE);
            }
            for (int s : new int[] {-1, all.length, LOW, HIGH}) check.due("state(" + s + ", 0)", x.state(s, 0), BAD);
        }
    }

    private static void passages() {
        check.about("promise 15");
        StackStates x = new StackStates();
        x.registers(3);
        x.costs(3, 5, 7);
        for (int s = 0; s < 16; s++) check.due("to itself", x.passage(s, s), 0);
        check.due("two loads", x.passage(0, 4), 10);
        check.due("three stores", x.passage(13, 0), 21);
        check.due("a move", x.passage(1, 3), 3);
        check.due("a store and a move", x.passage(4, 2), 10);
        check.due("a circle and a free register", x.passage(4, 6), 9);
        check.due("a circle, a load behind it", x.passage(4, 12), 14);
        check.due("a circle, a store before it", x.passage(10, 6), 16);
        check.due("a circle without a free register", x.passage(10, 12), 15);
        check.due("a circle of three", x.passage(10, 13), 18);
        check.due("a chain of moves", x.passage(4, 7), 6);
        x.costs(4, 5, 7);
        check.due("only the move is dearer", x.passage(10, 12), 16);
        x.costs(4, 6, 7);
        check.due("only the load is dearer", x.passage(10, 12), 17);
        x.costs(4, 6, 8);
        check.due("only the store is dearer", x.passage(10, 12), 18);
        x.costs(9, 1, 2);
        check.due("by memory", x.passage(1, 2), 3);
        check.due("a circle by memory", x.passage(10, 13), 9);
        check.due("a free register is too dear", x.passage(4, 6), 6);
        for (int s : new int[] {-1, 16, LOW, HIGH}) {
            check.due("passage(" + s + ", 0)", x.passage(s, 0), BAD);
            check.due("passage(0, " + s + ")", x.passage(0, s), BAD);
        }
        x.registers(1);
        check.due("passage(0, 2)", x.passage(0, 2), BAD);
    }

    private static void version(StackStates x, int i, int s, int leaves, int cost, int plain) {
        int[] due = {leaves, cost, plain};
        for (int what = 0; what < 3; what++) {
            String call = "version(" + i + ", " + s + ", " + what + ")";
            check.due(call, x.version(i, s, what), leaves == NONE ? NONE : due[what]);
        }
    }

    private static void versions() {
        check.about("promise 16, one and two registers");
        StackStates x = Check.laid("h" + "n01+-*dxporg0s0j00b00wh");
        x.costs(3, 5, 7);
        int n = NONE;
        // For each instruction from 1 on: what states 0 to 4 leave, the costs in state 0 and in the last one.
        int[][] leaves = {{1, 4, 3, n, n}, {0, n, n, 1, 1}, {0, n, n, 1, 1}, {0, n, n, 1, 1}, {0, 4, 3, n, n},
            {0, n, n, 4, 3}, {0, 0, 0, 2, 1}, {0, n, n, n, n}, {0, n, n, n, n}, {1, 4, 3, n, n},
            {0, 0, 0, 2, 1}, {0, 1, 2, 3, 4}, {0, 0, 0, 2, 1}, {0, 0, 0, 2, 1}, {0, 1, 2, 3, 4}};
        int[] plainCosts = {-1, 17, 17, 17, 19, 24, 0, 31, 36, -1, 5, -1, 5, 5, -1};
        for (int k = 0; k < leaves.length; k++) {
            for (int s = 0; s < 5; s++) {
                boolean plain = s == 0 && plainCosts[k] > 0;
                int cost = plain ? plainCosts[k] : k == 4 ? 3 : 0;
                version(x, k + 1, s, leaves[k][s], cost, plain ? 1 : 0);
            }
        }
        for (int i : new int[] {-1, 16, LOW, HIGH}) check.due("instruction", x.version(i, 0, 0), BAD);
        for (int s : new int[] {-1, 5, LOW, HIGH}) check.due("state", x.version(0, s, 0), BAD);
        for (int what : new int[] {-1, 3, LOW, HIGH}) check.due("what", x.version(0, 0, what), BAD);
        check.due("wrong before none", x.version(2, 1, 3), BAD);
        x.registers(1);
        version(x, 1, 0, 1, 0, 0);
        version(x, 1, 1, n, 0, 0);
        version(x, 2, 0, 0, 17, 1);
        version(x, 2, 1, n, 0, 0);
        version(x, 5, 0, 0, 19, 1);
        version(x, 5, 1, n, 0, 0);
        version(x, 7, 0, 0, 0, 0);
        version(x, 7, 1, 0, 0, 0);
        version(x, 14, 0, 0, 5, 1);
        version(x, 14, 1, 0, 0, 0);
        check.due("state 2", x.version(0, 2, 0), BAD);
    }

    private static void versionsOfThree() {
        check.about("promise 16, three registers");
        StackStates x = Check.laid("hn01+dxor");
        x.registers(3);
        x.costs(4, 1, 1);
        int n = NONE;
        int[][] leaves = {
            {1, 6, 4, 5, 14, 12, 15, 10, 13, 11, n, n, n, n, n, n},
            {0, n, n, n, 1, 1, 1, 1, 1, 1, 5, 4, 5, 6, 4, 6},
            {0, 6, 4, 5, 14, 12, 15, 10, 13, 11, n, n, n, n, n, n},
            {0, n, n, n, 6, 8, 4, 9, 5, 7, 12, 14, 10, 15, 11, 13},
            {0, n, n, n, 14, 12, 15, 10, 13, 11, n, n, n, n, n, n},
            {0, n, n, n, n, n, n, n, n, n, 14, 12, 15, 10, 13, 11}};
        for (int k = 0; k < leaves.length; k++) {
            for (int s = 0; s < 16; s++) {
                check.due("version(" + (k + 1) + ", " + s + ", 0)", x.version(k + 1, s, 0), leaves[k][s]);
            }
        }
        check.due("a copy", x.version(5, 9, 1), 4);
        check.due("a copy", x.version(3, 9, 1), 4);
        check.due("a permutation", x.version(6, 15, 1), 0);
        check.due("plain o", x.version(5, 0, 1), 5);
        check.due("plain r", x.version(6, 0, 2), 1);
    }

    private static void best() {
        check.about("promise 17");
        StackStates x = new StackStates();
        check.due("best()", x.best(), 1);
        x.registers(1);
        // *, d and - are plain, 6 each; before * and - two cells each are stored, and w and s0 load one.
        check.due("one register", x.best(), 3 * 6 + 4 * 2 + 2 * 2);
        check.due("h", Check.laid("h").best(), 0);
        StackStates branch = Check.laid("g0b02h");
        check.due("a branch to the next one", branch.best(), 0);
        // d must be plain with one register: a load and two stores, behind a store, and before two loads.
        StackStates dup = Check.laid("n01dww");
        dup.registers(1);
        dup.costs(1, 3, 4);
        check.due("plain d", dup.best(), 4 + 11 + 3 + 3);
        dup.weigh(1, 10);
        check.due("weighted d", dup.best(), 4 + 110 + 3 + 3);
        dup.weigh(3, 2);
        // The first w, not the second one, loads the cell for the second one.
        check.due("weighted w", dup.best(), 4 + 110 + 3 + 3);
        dup.weigh(2, 2);
        check.due("both w weighted", dup.best(), 4 + 110 + 6 + 6);
        dup.undo();
        check.due("undone", dup.best(), 4 + 110 + 3 + 3);
        // A store before the third n, and the load of both ways of the branch to the next instruction.
        check.due("both ways", Check.laid("n01n02n03b04+w").best(), 2 + 2 * 2);
    }

    private static void meetings() {
        check.about("promise 18");
        StackStates x = new StackStates();
        for (int i : new int[] {-1, 16, LOW, HIGH}) check.due("meets(" + i + ", 0)", x.meets(i, 0), BAD);
        for (int what : new int[] {-1, 2, LOW, HIGH}) check.due("meets(0, " + what + ")", x.meets(0, what), BAD);
        int[] states = {0, 1, 0, 1, 0, 1, 4, 1, 4, 1, 0, 1, 4, 1, 0, 0};
        int[] left = {1, 0, 1, 0, 1, 4, 1, 4, 1, 0, 1, 4, 1, 0, 0, 0};
        for (int i = 0; i < 16; i++) {
            check.due("meets(" + i + ", 0)", x.meets(i, 0), states[i]);
            check.due("meets(" + i + ", 1)", x.meets(i, 1), left[i]);
        }
        StackStates unreached = Check.laid("j02hh");
        check.due("unreached", unreached.meets(1, 0), NONE);
        check.due("unreached", unreached.meets(1, 1), NONE);
        check.due("unreached and wrong", unreached.meets(1, 2), BAD);
        // Nothing costs anything: the smallest states are chosen, first for the targets.
        StackStates free = Check.laid("n01n02n03xh");
        free.costs(0, 0, 0);
        for (int i = 0; i < 5; i++) check.due("free, meets(" + i + ", 0)", free.meets(i, 0), 0);
        // One of three cells is stored, the first one before n02 (then j03 has state 4) or before n03 (then 3).
        StackStates tie = Check.laid("n01n02n03j03");
        int[] first = {0, 1, 2, 3};
        for (int i = 0; i < 4; i++) check.due("the target first, " + i, tie.meets(i, 0), first[i]);
        // The same with two targets, 2 and 4: state 1 for 2 goes before state 3 for 4.
        StackStates two = Check.laid("g0n00g0j04b02");
        int[] smaller = {0, 0, 1, 4, 4};
        for (int i = 0; i < 5; i++) check.due("the smaller target first, " + i, two.meets(i, 0), smaller[i]);
    }

    private static void ifMeetings() {
        check.about("promise 19");
        StackStates x = new StackStates();
        for (int i : new int[] {-1, 16, LOW, HIGH}) check.due("ifMeets(" + i + ", 0)", x.ifMeets(i, 0), BAD);
        for (int s : new int[] {-1, 5, LOW, HIGH}) check.due("ifMeets(0, " + s + ")", x.ifMeets(0, s), BAD);
        check.due("ifMeets(0, 0)", x.ifMeets(0, 0), 1);
        check.due("instruction 0 has state 0", x.ifMeets(0, 1), NONE);
        check.due("too deep", x.ifMeets(1, 3), NONE);
        check.due("no version", x.ifMeets(6, 2), NONE);
        check.due("a register too many", x.ifMeets(2, 1), NONE);
        check.due("another register", x.ifMeets(1, 2), 2);
        check.due("by memory", x.ifMeets(1, 0), 1 + 2 + 2);
        check.due("the other order", x.ifMeets(6, 3), 2);
        StackStates unreached = Check.laid("j02hh");
        check.due("unreached", unreached.ifMeets(1, 0), NONE);
        check.due("unreached and wrong", unreached.ifMeets(1, 5), BAD);
        x.weigh(0, 50);
        check.due("weighted", x.ifMeets(1, 2), 1 + 50);
        check.due("best()", x.best(), 1);
    }

    private static void starts() {
        check.about("promise 20");
        StackStates x = new StackStates();
        check.due("start()", x.start(), 0);
        int[] begun = {0, 0, 0, 0, 0, 0};
        for (int what = 0; what < 6; what++) check.due("now(" + what + ")", x.now(what), begun[what]);
        x.step(500);
        check.due("start() again", x.start(), 0);
        for (int what = 0; what < 6; what++) check.due("now(" + what + ")", x.now(what), begun[what]);
        check.due("variable(0)", x.variable(0), 0);
        check.due("out(0)", x.out(0), NONE);
        check.due("went(0)", x.went(0), 0);
        check.due("step(500)", x.step(500), 70);
    }

    private static void steps() {
        check.about("promise 21");
        StackStates x = new StackStates();
        for (int n : new int[] {0, 501, -1, LOW, HIGH}) check.due("step(" + n + ")", x.step(n), BAD);
        check.due("no run", x.step(1), NO);
        x.start();
        for (int n : new int[] {0, 501}) check.due("step(" + n + ")", x.step(n), BAD);
        check.due("step(1)", x.step(1), 1);
        check.due("step(69)", x.step(69), 69);
        check.due("at the end", x.now(0), NONE);
        check.due("ended", x.step(1), NO);
        check.due("wrong and ended", x.step(0), BAD);
        x.start();
        check.due("step(69)", x.step(69), 69);
        check.due("before halt", x.now(0), 15);
        check.due("step(500)", x.step(500), 1);
        StackStates last = Check.laid("n01w");
        last.start();
        check.due("no next instruction", last.step(3), 2);
        StackStates branch = Check.laid("n01b00");
        branch.start();
        check.due("no next behind a branch", branch.step(500), 2);
        StackStates taken = Check.laid("g0b00");
        taken.start();
        check.due("a branch is taken", taken.step(500), 500);
        check.due("went(1)", taken.went(1), 250);
    }

    private static void endsBeforeOutput() {
        check.about("promise 21, a 17th output");
        StackStates x = Check.laid("n01dwj01");
        x.start();
        check.due("16 outputs", x.step(49), 49);
        check.due("not ended", x.now(0), 1);
        check.due("d, then the end", x.step(2), 1);
        check.due("ended", x.now(0), NONE);
        check.due("steps", x.now(4), 50);
        check.due("the state of w", x.now(1), x.meets(2, 0));
        check.due("cells", x.now(2), 2);
        check.due("w was not executed", x.went(2), 16);
        check.due("ended", x.step(1), NO);
        // A run that stands before w has not ended yet: it ends when the step that would write is asked for.
        x.start();
        check.due("up to w", x.step(50), 50);
        check.due("before w", x.now(0), 2);
        check.due("nothing is executed", x.step(1), 0);
        check.due("ended", x.now(0), NONE);
        check.due("ended", x.step(1), NO);
        check.due("out(15)", x.out(15), 1);
        check.due("out(16)", x.out(16), NONE);
    }

    private static void figures() {
        check.about("promise 22");
        StackStates x = new StackStates();
        for (int what : new int[] {-1, 6, LOW, HIGH}) check.due("now(" + what + ")", x.now(what), BAD);
        check.due("no run", x.now(0), NO);
        x.start();
        x.step(6);
        int[] due = {6, 4, 2, 0, 6, 0};
        for (int what = 0; what < 6; what++) check.due("now(" + what + ")", x.now(what), due[what]);
        x.step(3);
        due = new int[] {9, 1, 1, 1, 9, 1};
        for (int what = 0; what < 6; what++) check.due("now(" + what + ")", x.now(what), due[what]);
        check.due("wrong", x.now(6), BAD);
        // After the end the state is the one that the last instruction has left.
        StackStates last = Check.laid("n01n02");
        last.start();
        last.step(2);
        check.due("the state that n left", last.now(1), 4);
        check.due("next", last.now(0), NONE);
        // Weights change what is chosen, not what is paid.
        StackStates paid = Check.laid("n01dw");
        paid.registers(1);
        paid.costs(1, 3, 4);
        paid.weigh(1, 99);
        paid.start();
        paid.step(1);
        check.due("a store", paid.now(3), 4);
        paid.step(1);
        check.due("plain d", paid.now(3), 4 + 11 + paid.passage(0, paid.meets(2, 0)));
        paid.step(1);
        check.due("and a load", paid.now(3), 4 + 11 + 3);
    }

    private static void cells() {
        check.about("promise 23");
        StackStates x = Check.laid("n01n02n03rxo");
        check.due("no run", x.cell(0), NO);
        check.due("wrong and no run", x.cell(-1), BAD);
        x.start();
        check.due("empty", x.cell(0), NONE);
        int[][] due = {{1}, {2, 1}, {3, 2, 1}, {1, 3, 2}, {3, 1, 2}, {1, 3, 1, 2}};
        for (int k = 0; k < due.length; k++) {
            x.step(1);
            for (int i = 0; i < 5; i++) {
                check.due("step " + k + ", cell(" + i + ")", x.cell(i), i < due[k].length ? due[k][i] : NONE);
            }
        }
        check.due("cell(LOW)", x.cell(LOW), BAD);
        check.due("cell(HIGH)", x.cell(HIGH), NONE);
    }

    private static int result(String text) {
        StackStates x = Check.laid(text);
        x.start();
        x.step(500);
        return x.cell(0);
    }

    private static void arithmetic() {
        check.about("what instructions do");
        check.due("+", result("n07n02+"), 9);
        check.due("-", result("n07n02-"), 5);
        check.due("- below 0", result("n02n07-"), 999999995);
        check.due("*", result("n07n12*"), 84);
        check.due("d", result("n07d+"), 14);
        check.due("x", result("n07n02x-"), 999999995);
        check.due("p", result("n07n02p"), 7);
        check.due("o", result("n07n02o"), 7);
        check.due("r", result("n07n02n01r"), 7);
        check.due("g", result("g3"), 0);
        check.due("s", result("n09s3n08s2g3"), 9);
        check.due("j", result("n01j03n02n03"), 3);
        check.due("b at 0", result("g0b04n05hn06"), 6);
        check.due("b at 1", result("n01b04n05hn06"), 5);
        check.due("h", result("n01hn02"), 1);
        int big = 99;
        StringBuilder text = new StringBuilder("n99");
        for (int k = 0; k < 4; k++) {
            big *= big;
            text.append("d*");
            check.due("a square", result(text.toString()), Math.floorMod(big, StackStates.ZERO));
        }
    }

    private static void registerCells() {
        check.about("promise 24");
        StackStates x = new StackStates();
        for (int r : new int[] {-1, 2, LOW, HIGH}) check.due("register(" + r + ")", x.register(r), BAD);
        check.due("no run", x.register(0), NO);
        x.start();
        check.due("nothing", x.register(0), NONE);
        x.step(1);
        check.due("register(0)", x.register(0), 5);
        check.due("register(1)", x.register(1), NONE);
        x.step(5);
        check.due("register(0)", x.register(0), 5);
        check.due("register(1)", x.register(1), 3);
        check.due("register(2)", x.register(2), BAD);
        StackStates three = Check.laid("n01n02n03n04");
        three.registers(3);
        three.start();
        three.step(4);
        check.due("register(3)", three.register(3), BAD);
        // n has no version for three cells in registers: one of them is stored.
        int held = three.state(three.now(1), -1);
        check.due("three cells are held", held, 3);
        for (int i = 0; i < 3; i++) {
            check.due("cell " + i, three.register(three.state(three.now(1), i)), 4 - i);
        }
        StackStates below = Check.laid("n01n02-");
        below.start();
        below.step(3);
        check.due("-1 modulo ZERO", below.register(0), 999999999);
    }

    private static void memoryCells() {
        check.about("promise 25");
        StackStates x = Check.laid("n01n02n03n04+++h");
        check.due("no run", x.memory(0), NO);
        check.due("wrong and no run", x.memory(-1), BAD);
        x.start();
        check.due("empty", x.memory(0), NONE);
        for (int k = 1; k <= 4; k++) {
            x.step(1);
            int held = x.state(x.now(1), -1);
            for (int i = 0; i < 6; i++) {
                check.due("memory(" + i + ")", x.memory(i), i < k - held ? i + 1 : NONE);
            }
        }
        check.due("two cells at least", x.memory(1), 2);
        check.due("memory(LOW)", x.memory(LOW), BAD);
        check.due("memory(HIGH)", x.memory(HIGH), NONE);
        StackStates below = Check.laid("n01n02-n01n01n01");
        below.start();
        below.step(6);
        check.due("-1 modulo ZERO", below.memory(0), 999999999);
    }

    private static void variables() {
        check.about("promise 26");
        StackStates x = Check.laid("n07s0n01n03-s3");
        for (int k : new int[] {-1, 4, LOW, HIGH}) check.due("variable(" + k + ")", x.variable(k), BAD);
        check.due("no run", x.variable(0), NO);
        x.start();
        for (int k = 0; k < 4; k++) check.due("variable(" + k + ")", x.variable(k), 0);
        x.step(500);
        int[] due = {7, 0, 0, 999999998};
        for (int k = 0; k < 4; k++) check.due("variable(" + k + ")", x.variable(k), due[k]);
    }

    private static void outputs() {
        check.about("promise 27");
        StackStates x = Check.laid("n07wn01n03-w");
        check.due("no run", x.out(0), NO);
        check.due("wrong and no run", x.out(-1), BAD);
        x.start();
        check.due("none yet", x.out(0), NONE);
        x.step(500);
        check.due("out(0)", x.out(0), 7);
        check.due("out(1)", x.out(1), 999999998);
        check.due("out(2)", x.out(2), NONE);
        check.due("out(HIGH)", x.out(HIGH), NONE);
        check.due("out(LOW)", x.out(LOW), BAD);
        x.start();
        check.due("a new run", x.out(0), NONE);
    }

    private static void wentCounts() {
        check.about("promise 28");
        StackStates x = new StackStates();
        for (int i : new int[] {-1, 16, LOW, HIGH}) check.due("went(" + i + ")", x.went(i), BAD);
        check.due("no run", x.went(0), NO);
        x.start();
        x.step(500);
        int[] due = {1, 1, 6, 6, 5, 5, 5, 5, 5, 5, 5, 5, 5, 5, 5, 1};
        for (int i = 0; i < 16; i++) check.due("went(" + i + ")", x.went(i), due[i]);
        x.start();
        check.due("a new run", x.went(0), 0);
        check.due("wrong", x.went(16), BAD);
    }

    private static void counts() {
        check.about("promise 29");
        StackStates x = Check.laid("g0b04hhj06hh");
        x.registers(3);
        x.costs(4, 5, 6);
        x.start();
        Check.rewrite(x, "gg");
        x.fault();
        int[] due = {7, 3, 4, 5, 6, 5, 2, 2, 2, 2, 1};
        for (int what = 0; what < due.length; what++) check.due("count(" + what + ")", x.count(what), due[what]);
        for (int what : new int[] {-1, 11, LOW, HIGH}) check.due("count(" + what + ")", x.count(what), BAD);
    }

    private static void endsOfRuns() {
        check.about("what ends the existence of a run");
        for (int way = 0; way < 6; way++) {
            StackStates x = new StackStates();
            x.weigh(1, 3);
            x.start();
            x.registers(0);
            x.registers(2);
            x.costs(1, 2, 2);
            x.costs(1, 2, 10);
            x.weigh(1, 3);
            x.weigh(99, 3);
            x.lay();
            x.fault();
            x.step(501);
            x.best();
            x.ifMeets(3, 1);
            check.due("errors and questions leave the run", x.count(10), 1);
            if (way == 0) x.registers(1);
            if (way == 1) x.costs(0, 0, 0);
            if (way == 2) x.weigh(0, 4);
            if (way == 3) x.profile();
            if (way == 4) x.undo();
            x.write('h');
            if (way == 5) x.lay();
            check.due("way " + way, x.count(10), 0);
            check.due("step(1)", x.step(1), NO);
            check.due("now(0)", x.now(0), NO);
        }
    }

    private static void largest() {
        check.about("the largest program");
        StackStates x = Check.laid("n01".repeat(12) + "w".repeat(12));
        x.registers(3);
        check.due("count(5)", x.count(5), 24);
        check.due("depth", x.code(12, 2), 12);
        // Nine cells are stored and loaded again.
        check.due("best()", x.best(), 9 * 2 + 9 * 2);
        check.due("ifMeets(23, 0)", x.ifMeets(23, 0), 36);
        check.due("ifMeets(12, 0)", x.ifMeets(12, 0), 48);
        check.due("meets(24, 0)", x.meets(24, 0), BAD);
        x.start();
        check.due("step(12)", x.step(12), 12);
        check.due("twelve cells", x.now(2), 12);
        check.due("cell(11)", x.cell(11), 1);
        check.due("cell(12)", x.cell(12), NONE);
        check.due("step(500)", x.step(500), 12);
        check.due("paid", x.now(3), 36);
        check.due("outputs", x.now(5), 12);
        check.due("went(23)", x.went(23), 1);
        check.due("profile()", x.profile(), 24);
        check.due("best()", x.best(), 72);
        check.due("undo()", x.undo(), 1);
        check.due("weight", x.code(23, 4), 1);
        StackStates jump = Check.laid("j23" + "h".repeat(22) + "j00");
        check.due("reached", jump.count(5), 2);
        check.due("two targets", jump.count(6), 2);
        check.due("best()", jump.best(), 0);
    }
}
