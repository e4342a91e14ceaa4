/** The sentences of RUNS, and of promises 20 to 29, and that all holds up to the 512th call. */
final class RunSentences {
    private static final int BAD = StackStates.BAD;
    private static final int NO = StackStates.NO;
    private static final int NONE = StackStates.NONE;
    private static final int LOW = Integer.MIN_VALUE;
    private static final int HIGH = Integer.MAX_VALUE;

    // Writes 1 again and again: after 49 steps 16 outputs are written, and d is next; after 50 steps w.
    private static final String WRITER = "n01dwj01";

    private final Sentences t;

    RunSentences(Sentences t) {
        this.t = t;
    }

    void all() {
        bestChoice();
        beginning();
        steps();
        ends();
        outputs();
        startAnswers();
        stepAnswers();
        nowAnswers();
        statesAtTheEnd();
        cellAnswers();
        registerAnswers();
        memoryAnswers();
        variableAnswers();
        outAnswers();
        wentAnswers();
        countAnswers();
        manyCalls();
    }

    private void now(StackStates x, String when, int... due) {
        for (int what = 0; what < due.length; what++) t.due("now(" + what + ") " + when, x.now(what), due[what]);
    }

    // ---- RUNS

    private void bestChoice() {
        t.of("RUNS", "A run executes the program with the best choice.");
        StackStates x = new StackStates();
        x.start();
        for (int k = 0; k < 70; k++) {
            t.due("the state before step " + k, x.now(1), x.meets(x.now(0), 0));
            x.step(1);
        }
        StackStates tie = Sentences.after("n01n02n03j03", 3);
        t.due("the first of several", tie.now(1), 3);
    }

    private void beginning() {
        t.of("RUNS", "It begins before instruction 0 with an empty stack, all variables 0, and no output.");
        StackStates x = Check.laid("n05dwds0ds1ds2s3n06");
        for (int run = 0; run < 2; run++) {
            x.start();
            now(x, "at the beginning", 0, 0, 0, 0, 0, 0);
            t.due("cell(0)", x.cell(0), NONE);
            t.due("memory(0)", x.memory(0), NONE);
            t.due("register(0)", x.register(0), NONE);
            t.due("register(1)", x.register(1), NONE);
            for (int k = 0; k < 4; k++) t.due("variable(" + k + ")", x.variable(k), 0);
            t.due("out(0)", x.out(0), NONE);
            for (int i = 0; i < 11; i++) t.due("went(" + i + ")", x.went(i), 0);
            t.due("step(500)", x.step(500), 11);
            for (int k = 0; k < 4; k++) t.due("variable(" + k + ")", x.variable(k), 5);
            t.due("cell(0)", x.cell(0), 6);
        }
    }

    private void steps() {
        t.of("RUNS", "A step executes an instruction, and the transition to the state of the next one; what it pays is the"
                + " cost of both (without weights).");
        StackStates x = Check.laid("n01n02+w");
        x.registers(1);
        x.costs(0, 3, 5);
        for (int i = 0; i < 4; i++) x.weigh(i, 900 + i);
        x.start();
        int[] paid = {5, 10, 24, 24};
        for (int k = 0; k < 4; k++) {
            int i = x.now(0);
            int before = x.now(3);
            x.step(1);
            int passage = k < 3 ? x.passage(x.meets(i, 1), x.meets(i + 1, 0)) : 0;
            t.due("step " + k, x.now(3) - before, x.version(i, x.meets(i, 0), 1) + passage);
            t.due("in all after step " + k, x.now(3), paid[k]);
        }
        // Of a branch only the way that is gone is paid: from state 4 that b leaves.
        StackStates branch = Check.laid("n01n02n03b04+w");
        branch.start();
        branch.step(500);
        t.due("best()", branch.best(), 6);
        t.due("one way only", branch.now(3), 4);
    }

    private void ends() {
        t.of("RUNS", "The run ends after halt, or if there is no next instruction.");
        StackStates halt = Sentences.after("n01hn02", 1);
        t.due("before halt", halt.now(0), 1);
        t.due("halt is a step", halt.step(1), 1);
        t.due("after halt", halt.now(0), NONE);
        t.due("after halt", halt.step(1), NO);
        t.due("halt was executed", halt.went(1), 1);
        StackStates last = Sentences.after("n01n02", 1);
        t.due("before the last", last.now(0), 1);
        t.due("the last", last.step(1), 1);
        t.due("no next one", last.now(0), NONE);
        t.due("no next one", last.step(1), NO);
        StackStates branch = Sentences.after("n01b00", 2);
        t.due("behind a branch", branch.now(0), NONE);
        t.due("the run exists still", branch.count(10), 1);
        t.due("a jump never ends it", Sentences.after("j00", 5000).now(0), 0);
    }

    private void outputs() {
        t.of("RUNS", "The output holds at most 16 numbers; before a 17th one would be written the run ends, and this"
                + " instruction is not executed.");
        StackStates x = Sentences.after(WRITER, 45);
        t.due("outputs", x.now(5), 15);
        t.due("j, d and w", x.step(3), 3);
        t.due("the 16th", x.now(5), 16);
        t.due("not ended", x.now(0), 3);
        t.due("j and d, but not w", x.step(3), 2);
        now(x, "at the end", NONE, x.meets(2, 0), 2, 17, 50, 16);
        t.due("w was executed", x.went(2), 16);
        t.due("d was executed", x.went(1), 17);
        t.due("the cell is not taken", x.cell(1), 1);
        t.due("out(15)", x.out(15), 1);
        t.due("out(16)", x.out(16), NONE);
        t.due("ended", x.step(1), NO);
        // Exactly 16 outputs end nothing: halt is executed, and w as the last instruction.
        StackStates halt = Sentences.after("n08s0n07wn07wg0n01-ds0b13j02h", 500);
        now(halt, "after halt", NONE, 0, 0, 8, 2 + 7 * 11 + 10 + 1, 16);
        StackStates last = Sentences.after("n15s0n07wg0n01-ds0b11j02n07w", 500);
        now(last, "after w", NONE, 0, 0, 15, 2 + 14 * 9 + 8 + 2, 16);
        // Without an output the run goes on after 16.
        StackStates on = Sentences.after("n16s0n07wg0n01-ds0b11j02n07p", 500);
        now(on, "after p", NONE, 0, 0, 16, 2 + 15 * 9 + 8 + 2, 16);
    }

    // ---- promises 20 to 29

    private void startAnswers() {
        t.ofPromise(20, "Begins a run, in place of one that there is.");
        StackStates x = new StackStates();
        t.due("no run", x.count(10), 0);
        x.start();
        t.due("a run", x.count(10), 1);
        x.step(10);
        x.start();
        now(x, "in place of one", 0, 0, 0, 0, 0, 0);
        t.due("went(0)", x.went(0), 0);
        x.step(500);
        t.due("ended", x.now(0), NONE);
        x.start();
        now(x, "in place of one that has ended", 0, 0, 0, 0, 0, 0);
        t.due("the whole run again", x.step(500), 70);
        x.weigh(0, 2);
        t.due("gone", x.count(10), 0);
        x.start();
        now(x, "after a change", 0, 0, 0, 0, 0, 0);

        t.ofPromise(20, "Returns 0, the state of instruction 0.");
        for (int r = 1; r <= 3; r++) {
            StackStates y = Check.laid("j00");
            y.registers(r);
            t.due("start()", y.start(), 0);
            t.due("start() again", y.start(), 0);
            t.due("its state", y.meets(0, 0), 0);
        }
    }

    private void stepAnswers() {
        t.ofPromise(21, "Executes n steps, fewer if the run ends.");
        StackStates x = new StackStates();
        x.start();
        t.due("step(69)", x.step(69), 69);
        t.due("not ended", x.now(0), 15);
        t.due("step(2)", x.step(2), 1);
        x.start();
        t.due("step(70)", x.step(70), 70);
        t.due("ended", x.now(0), NONE);
        x.start();
        t.due("step(71)", x.step(71), 70);
        x.start();
        for (int k = 1; k <= 70; k++) {
            t.due("step(1)", x.step(1), 1);
            t.due("steps", x.now(4), k);
        }
        t.due("step(1)", x.step(1), NO);

        t.ofPromise(21, "`n`: 1 to 500");
        StackStates loop = Check.laid("j00");
        loop.start();
        t.due("step(1)", loop.step(1), 1);
        t.due("step(2)", loop.step(2), 2);
        t.due("step(499)", loop.step(499), 499);
        t.due("step(500)", loop.step(500), 500);
        t.due("in all", loop.now(4), 1002);

        t.ofPromise(21, "Returns how many steps were executed");
        t.due("the only one", afterStart("h").step(500), 1);
        t.due("all 24", afterStart("n01".repeat(12) + "w".repeat(12)).step(500), 24);
        t.due("up to a 17th output", afterStart(WRITER).step(500), 50);
        t.due("500 of many", afterStart("j00").step(500), 500);
        StackStates before = Sentences.after(WRITER, 50);
        t.due("before a 17th output", before.now(0), 2);
        t.due("none, as the run ends before w", before.step(500), 0);
        t.due("it has ended", before.step(500), NO);

        t.ofPromise(21, "BAD if n is out of range");
        StackStates y = afterStart("j00");
        for (int n : new int[] {0, 501, -1, 502, 1000, LOW, HIGH}) {
            t.due("step(" + n + ")", y.step(n), BAD);
            t.due("no step", y.now(4), 0);
            t.due("without a run", new StackStates().step(n), BAD);
            t.due("after the end", Sentences.after("h", 1).step(n), BAD);
        }

        t.ofPromise(21, "NO if there is no run, or it has ended");
        t.due("no run", new StackStates().step(1), NO);
        t.due("no run", new StackStates().step(500), NO);
        StackStates ended = Sentences.after("n07h", 2);
        t.due("ended", ended.step(1), NO);
        t.due("ended", ended.step(500), NO);
        now(ended, "after it", NONE, 1, 1, 0, 2, 0);
    }

    private static StackStates afterStart(String text) {
        return Sentences.after(text, 0);
    }

    private void nowAnswers() {
        t.ofPromise(22, "0: the next instruction; 1: the present state: the state of the next instruction");
        StackStates x = new StackStates();
        x.start();
        int[] next = {0, 1, 2, 3, 4, 5, 6, 7, 8, 9, 10, 11, 12, 13, 14, 2};
        int[] states = {0, 1, 0, 1, 0, 1, 4, 1, 4, 1, 0, 1, 4, 1, 0, 0};
        for (int k = 0; k < 16; k++) {
            now(x, "after " + k, next[k], states[k]);
            x.step(1);
        }

        t.ofPromise(22, "2: the number of cells on the stack; 3: what was paid in all; 4: the number of steps; 5: the number"
                + " of outputs");
        StackStates y = Check.laid("n01".repeat(12) + "w".repeat(12));
        y.start();
        for (int k = 0; k <= 24; k++) {
            t.due("cells after " + k, y.now(2), Math.min(k, 24 - k));
            t.due("steps after " + k, y.now(4), k);
            t.due("outputs after " + k, y.now(5), Math.max(0, k - 12));
            y.step(1);
        }
        t.due("ten cells are stored and loaded", y.now(3), 10 * 2 + 10 * 2);
        t.due("steps", y.now(4), 24);

        t.ofPromise(22, "Returns a figure of the run. - `what`: 0: the next instruction; 1: the present state: the state of"
                + " the next instruction; after the end the state that the last instruction has left, or, if the run ended"
                + " before w, the state of this w; 2: the number of cells on the stack; 3: what was paid in all; 4: the"
                + " number of steps; 5: the number of outputs Returns the figure");
        now(Sentences.after("n01n02+wh", 4), "before h", 4, 0, 0, 0, 4, 1);

        t.ofPromise(22, "for 0, NONE if the run has ended");
        t.due("before the end", Sentences.after("hh", 0).now(0), 0);
        t.due("after halt", Sentences.after("hh", 1).now(0), NONE);
        t.due("after the last", Sentences.after("n01", 1).now(0), NONE);
        t.due("before a 17th output", Sentences.after(WRITER, 51).now(0), NONE);
        t.due("before it is tried", Sentences.after(WRITER, 50).now(0), 2);

        t.ofPromise(22, "BAD if what is out of range");
        for (int what : new int[] {-1, 6, 7, LOW, HIGH}) {
            t.due("without a run", new StackStates().now(what), BAD);
            t.due("with a run", x.now(what), BAD);
            t.due("after the end", y.now(what), BAD);
        }

        t.ofPromise(22, "NO if there is no run");
        for (int what = 0; what < 6; what++) {
            t.due("now(" + what + ")", new StackStates().now(what), NO);
            t.due("now(" + what + "), ended", y.now(what) == NO ? 1 : 0, 0);
        }
        y.registers(3);
        for (int what = 0; what < 6; what++) t.due("now(" + what + ") after a change", y.now(what), NO);
    }

    private void statesAtTheEnd() {
        t.ofPromise(22, "after the end the state that the last instruction has left, or, if the run ended before w, the"
                + " state of this w");
        t.due("halt leaves its state", Sentences.after("n01h", 2).now(1), 1);
        t.due("halt with an empty stack", Sentences.after("h", 1).now(1), 0);
        t.due("n", Sentences.after("n01", 1).now(1), 1);
        t.due("two n", Sentences.after("n01n02", 2).now(1), 4);
        t.due("x", Sentences.after("n01n02x", 3).now(1), 3);
        t.due("w takes the cell", Sentences.after("n01w", 2).now(1), 0);
        t.due("b takes the cell", Sentences.after("n01n02b01", 3).now(1), 1);
        // n leaves state 1, d has this state, and leaves state 4, in which w is executed.
        StackStates x = Sentences.after(WRITER, 51);
        t.due("before w, which has state 4", x.now(1), 4);
        t.due("its state", x.meets(2, 0), 4);
        t.due("register(1)", x.register(1), 1);
    }

    private void cellAnswers() {
        t.ofPromise(23, "Returns a cell of the stack. - `i`: index, 0 for the top cell Returns the cell modulo ZERO");
        StackStates x = Sentences.after("n01".repeat(11) + "n02", 12);
        t.due("the top", x.cell(0), 2);
        for (int i = 1; i < 12; i++) t.due("cell(" + i + ")", x.cell(i), 1);
        t.due("-1", Sentences.after("n00n01-", 3).cell(0), 999999999);

        t.ofPromise(23, "NONE if there are not so many");
        t.due("cell(12)", x.cell(12), NONE);
        t.due("cell(HIGH)", x.cell(HIGH), NONE);
        StackStates y = Sentences.after("n01p", 1);
        t.due("the only one", y.cell(0), 1);
        t.due("one more", y.cell(1), NONE);
        y.step(1);
        t.due("an empty stack", y.cell(0), NONE);

        t.ofPromise(23, "BAD if i is negative");
        for (int i : new int[] {-1, -2, LOW}) {
            t.due("cell(" + i + ")", x.cell(i), BAD);
            t.due("without a run", new StackStates().cell(i), BAD);
        }

        t.ofPromise(23, "NO if there is no run");
        for (int i : new int[] {0, 1, 12, HIGH}) t.due("cell(" + i + ")", new StackStates().cell(i), NO);
    }

    private void registerAnswers() {
        t.ofPromise(24, "Returns what a register holds by the present state. - `r`: number of the register Returns the cell"
                + " modulo ZERO");
        StackStates x = Check.laid("n01n02n03");
        x.registers(3);
        Sentences.run(x, 3);
        for (int r = 0; r < 3; r++) t.due("register(" + r + ")", x.register(r), r + 1);
        t.due("-1", Sentences.after("n00n01-", 3).register(0), 999999999);

        t.ofPromise(24, "NONE if it holds no cell by this state");
        StackStates y = Check.laid("n07pn08n09");
        y.start();
        int[][] due = {{NONE, NONE}, {7, NONE}, {NONE, NONE}, {8, NONE}, {8, 9}};
        for (int[] row : due) {
            for (int r = 0; r < 2; r++) t.due("register(" + r + ")", y.register(r), row[r]);
            y.step(1);
        }

        t.ofPromise(24, "BAD if there is no such register");
        for (int count = 1; count <= 3; count++) {
            StackStates z = new StackStates();
            z.registers(count);
            for (int run = 0; run < 2; run++) {
                for (int r : new int[] {-1, count, count + 1, LOW, HIGH}) t.due("register(" + r + ")", z.register(r), BAD);
                z.start();
            }
            t.due("the last one", z.register(count - 1), NONE);
        }

        t.ofPromise(24, "NO if there is no run");
        t.due("register(0)", new StackStates().register(0), NO);
        t.due("register(1)", new StackStates().register(1), NO);
    }

    private void memoryAnswers() {
        t.ofPromise(25, "Returns a place of memory. - `i`: index, 0 for the place of the bottom cell Returns the cell modulo"
                + " ZERO");
        StringBuilder text = new StringBuilder();
        for (int k = 1; k <= 12; k++) text.append("n").append(Programs.two(k));
        StackStates x = Sentences.after(text.toString(), 12);
        for (int i = 0; i < 10; i++) t.due("memory(" + i + ")", x.memory(i), i + 1);
        StackStates below = Sentences.after("n00n01-n01n01n01", 6);
        t.due("-1", below.memory(0), 999999999);

        t.ofPromise(25, "NONE if the stack has not so many cells, or a register holds this cell by the present state");
        t.due("held", x.memory(10), NONE);
        t.due("held", x.memory(11), NONE);
        t.due("not so many", x.memory(12), NONE);
        t.due("not so many", x.memory(HIGH), NONE);
        t.due("an empty stack", Sentences.after("n01", 0).memory(0), NONE);
        t.due("the only one is held", Sentences.after("n01", 1).memory(0), NONE);
        // d is plain with one register: its state 0 leaves both cells in memory.
        StackStates plain = Check.laid("n01d");
        plain.registers(1);
        Sentences.run(plain, 2);
        t.due("nothing is held", plain.memory(0), 1);
        t.due("nothing is held", plain.memory(1), 1);
        t.due("not so many", plain.memory(2), NONE);

        t.ofPromise(25, "BAD if i is negative");
        for (int i : new int[] {-1, -2, LOW}) {
            t.due("memory(" + i + ")", x.memory(i), BAD);
            t.due("without a run", new StackStates().memory(i), BAD);
        }

        t.ofPromise(25, "NO if there is no run");
        for (int i : new int[] {0, 1, 12, HIGH}) t.due("memory(" + i + ")", new StackStates().memory(i), NO);
    }

    private void variableAnswers() {
        t.ofPromise(26, "Returns a variable. - `k`: 0 to 3 Returns its value modulo ZERO");
        StackStates x = Sentences.after("n05s0n06s1n07s2n00n01-s3", 10);
        int[] due = {5, 6, 7, 999999999};
        for (int k = 0; k < 4; k++) t.due("variable(" + k + ")", x.variable(k), due[k]);

        t.ofPromise(26, "BAD if k is out of range");
        for (int k : new int[] {-1, 4, 5, LOW, HIGH}) {
            t.due("variable(" + k + ")", x.variable(k), BAD);
            t.due("without a run", new StackStates().variable(k), BAD);
        }

        t.ofPromise(26, "NO if there is no run");
        for (int k = 0; k < 4; k++) t.due("variable(" + k + ")", new StackStates().variable(k), NO);
    }

    private void outAnswers() {
        t.ofPromise(27, "Returns an output. - `i`: index, 0 for the first one Returns the number modulo ZERO");
        StackStates x = Sentences.after("g0n01-dws0j00", 500);
        for (int i = 0; i < 16; i++) t.due("out(" + i + ")", x.out(i), 999999999 - i);

        t.ofPromise(27, "NONE if there are not so many");
        t.due("out(16)", x.out(16), NONE);
        t.due("out(HIGH)", x.out(HIGH), NONE);
        StackStates y = Sentences.after("n01wh", 1);
        t.due("none yet", y.out(0), NONE);
        y.step(1);
        t.due("the first", y.out(0), 1);
        t.due("no second", y.out(1), NONE);
        y.start();
        t.due("none in a new run", y.out(0), NONE);

        t.ofPromise(27, "BAD if i is negative");
        for (int i : new int[] {-1, -2, LOW}) {
            t.due("out(" + i + ")", x.out(i), BAD);
            t.due("without a run", new StackStates().out(i), BAD);
        }

        t.ofPromise(27, "NO if there is no run");
        for (int i : new int[] {0, 15, 16, HIGH}) t.due("out(" + i + ")", new StackStates().out(i), NO);
    }

    private void wentAnswers() {
        t.ofPromise(28, "Returns how often an instruction was executed in the run. - `i`: number of the instruction Returns"
                + " how often");
        StackStates x = new StackStates();
        for (int run = 0; run < 2; run++) {
            x.start();
            for (int i = 0; i < 16; i++) t.due("went(" + i + ") at first", x.went(i), 0);
            x.step(500);
            for (int i = 0; i < 16; i++) t.due("went(" + i + ")", x.went(i), i < 2 || i == 15 ? 1 : i < 4 ? 6 : 5);
        }
        StackStates y = Sentences.after("j02hj00", 501);
        t.due("went(0)", y.went(0), 251);
        t.due("not reached", y.went(1), 0);
        t.due("went(2)", y.went(2), 250);

        t.ofPromise(28, "BAD if there is no such instruction");
        for (int i : new int[] {-1, 16, 17, 24, LOW, HIGH}) {
            t.due("went(" + i + ")", x.went(i), BAD);
            t.due("without a run", new StackStates().went(i), BAD);
        }
        StackStates full = Sentences.after("h".repeat(24), 1);
        t.due("went(0)", full.went(0), 1);
        t.due("went(23)", full.went(23), 0);
        t.due("went(24)", full.went(24), BAD);
        t.due("went(1) of one", Sentences.after("h", 1).went(1), BAD);

        t.ofPromise(28, "NO if there is no run");
        for (int i : new int[] {0, 15}) t.due("went(" + i + ")", new StackStates().went(i), NO);
    }

    private void counts(StackStates x, int... due) {
        for (int what = 0; what < due.length; what++) t.due("count(" + what + ")", x.count(what), due[what]);
    }

    private void countAnswers() {
        t.ofPromise(29, "Returns a count. - `what`: 0: instructions; 1: R; 2, 3, 4: the costs of a move, a load and a store;"
                + " 5: reached instructions; 6: targets; 7: changes that can be undone; 8: characters of the text; 9: causes;"
                + " 10: 1 if there is a run, 0 if not Returns the count");
        StackStates x = new StackStates();
        counts(x, 16, 2, 1, 2, 2, 16, 2, 0, 0, 0, 0);
        Check.rewrite(x, "j23" + "h".repeat(22) + "p");
        x.lay();
        counts(x, 16, 2, 1, 2, 2, 16, 2, 0, 26, 3, 0);
        Check.rewrite(x, "j23" + "h".repeat(22) + "j22");
        x.lay();
        counts(x, 24, 2, 1, 2, 2, 3, 2, 0, 28, 0, 0);
        x.registers(3);
        x.costs(0, 9, 8);
        for (int w = 2; w < 9; w++) x.weigh(23, w);
        x.start();
        Check.rewrite(x, "n".repeat(200));
        x.fault();
        counts(x, 24, 3, 0, 9, 8, 3, 2, 6, 200, 2, 1);
        x.step(500);
        t.due("a run that has ended is a run", x.count(10), 1);
        x.undo();
        x.wipe();
        x.lay();
        counts(x, 24, 3, 0, 9, 8, 3, 2, 5, 0, 1, 0);

        t.ofPromise(29, "BAD if what is out of range");
        for (int what : new int[] {-1, 11, 12, LOW, HIGH}) t.due("count(" + what + ")", x.count(what), BAD);
    }

    // ---- the 512th call

    private void manyCalls() {
        t.of("USE", "An object is used for at most 512 calls after it has been made; what later calls answer is free.");
        StackStates x = new StackStates();
        for (char letter : "j00".toCharArray()) x.write(letter);
        x.lay();
        x.start();
        for (int k = 6; k <= 509; k++) t.due("call " + k, x.step(500), 500);
        t.due("call 510", x.now(4), 504 * 500);
        t.due("call 511", x.profile(), 1);
        t.due("call 512", x.code(0, 4), 999);

        // What is paid stays exact: 20 times r costs 6 loads or stores each, and a jump leads back.
        StackStates dear = new StackStates();
        for (char letter : ("n01n01n01" + "r".repeat(20) + "j03").toCharArray()) dear.write(letter);
        dear.lay();
        dear.registers(1);
        dear.costs(9, 9, 9);
        dear.start();
        for (int k = 37; k <= 511; k++) t.due("call " + k, dear.step(500), 500);
        int steps = 475 * 500 - 3;
        t.due("call 512", dear.now(3), 3 * 9 + steps / 21 * 20 * 54 + steps % 21 * 54);

        StackStates changed = new StackStates();
        for (int k = 1; k <= 510; k++) t.due("call " + k, changed.weigh(k % 16, 2 + k / 16), k <= 16 ? 1 : 1 + k / 16);
        t.due("call 511", changed.undo(), 5);
        t.due("call 512", changed.code(510 % 16, 4), 1 + 510 / 16);
    }
}
