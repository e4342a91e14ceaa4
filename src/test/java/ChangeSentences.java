import java.util.ArrayDeque;
import java.util.Deque;

/** The sentences of promises 8 to 12, and what RUNS says of changes. */
final class ChangeSentences {
    private static final int BAD = StackStates.BAD;
    private static final int NO = StackStates.NO;
    private static final int NONE = StackStates.NONE;
    private static final int LOW = Integer.MIN_VALUE;
    private static final int HIGH = Integer.MAX_VALUE;

    private final Sentences t;

    ChangeSentences(Sentences t) {
        this.t = t;
    }

    void all() {
        registers();
        costs();
        weights();
        profileWeights();
        profileAnswers();
        undoing();
        changes();
        endsOfRuns();
        latestSix();
    }

    private static StackStates running() {
        StackStates x = new StackStates();
        x.start();
        x.step(3);
        return x;
    }

    private void registers() {
        t.ofPromise(8, "Sets R. - `r`: 1 to 3");
        for (int r : new int[] {1, 3}) {
            StackStates x = new StackStates();
            x.registers(r);
            t.due("R", x.count(1), r);
            t.due("the last register", x.state(r, 0), r - 1);
            x.start();
            t.due("register(r - 1)", x.register(r - 1), NONE);
            t.due("register(r)", x.register(r), BAD);
        }

        t.ofPromise(8, "Returns r before");
        StackStates x = new StackStates();
        int[] way = {2, 1, 3, 2, 3, 1, 2};
        for (int k = 1; k < way.length; k++) t.due("registers(" + way[k] + ")", x.registers(way[k]), way[k - 1]);

        t.ofPromise(8, "BAD if r is out of range");
        StackStates y = running();
        for (int r : new int[] {0, 4, -1, 5, LOW, HIGH}) {
            t.due("registers(" + r + ")", y.registers(r), BAD);
            t.due("R stays", y.count(1), 2);
            t.due("no change", y.count(7), 0);
            t.due("the run stays", y.now(4), 3);
        }

        t.ofPromise(8, "NO if R is r already");
        for (int r = 1; r <= 3; r++) {
            StackStates z = new StackStates();
            if (r != 2) z.registers(r);
            z.start();
            t.due("registers(" + r + ")", z.registers(r), NO);
            t.due("no change", z.count(7), r == 2 ? 0 : 1);
            t.due("the run stays", z.count(10), 1);
        }
    }

    private void costs() {
        t.ofPromise(9, "Sets the costs. - `move`: 0 to 9 - `load`: 0 to 9 - `store`: 0 to 9");
        int[][] edges = {{0, 0, 0}, {9, 9, 9}, {0, 9, 9}, {9, 0, 9}, {9, 9, 0}, {9, 0, 0}, {0, 9, 0}, {0, 0, 9}};
        for (int[] c : edges) {
            StackStates x = new StackStates();
            x.costs(c[0], c[1], c[2]);
            for (int k = 0; k < 3; k++) t.due("count(" + (2 + k) + ")", x.count(2 + k), c[k]);
            t.due("a move", x.passage(1, 2), Math.min(c[0], c[1] + c[2]));
            t.due("a load", x.passage(0, 1), c[1]);
            t.due("a store", x.passage(1, 0), c[2]);
        }
        StackStates one = new StackStates();
        one.costs(3, 2, 2);
        t.due("another move alone", one.passage(1, 2), 3);
        one.costs(3, 4, 2);
        t.due("another load alone", one.passage(0, 1), 4);
        one.costs(3, 4, 5);
        t.due("another store alone", one.passage(1, 0), 5);

        t.ofPromise(9, "Returns 100 * move + 10 * load + store as they were before");
        StackStates x = new StackStates();
        int before = 122;
        for (int[] c : edges) {
            t.due("costs", x.costs(c[0], c[1], c[2]), before);
            before = 100 * c[0] + 10 * c[1] + c[2];
        }

        t.ofPromise(9, "BAD if an argument is out of range");
        StackStates y = running();
        for (int c : new int[] {-1, 10, 100, LOW, HIGH}) {
            t.due("move " + c, y.costs(c, 5, 5), BAD);
            t.due("load " + c, y.costs(5, c, 5), BAD);
            t.due("store " + c, y.costs(5, 5, c), BAD);
            t.due("all " + c, y.costs(c, c, c), BAD);
            t.due("the others as they are", y.costs(1, 2, c), BAD);
        }
        // Their sum is that of the present costs, but -1 and 12 are no costs.
        t.due("costs(1, 3, -8)", y.costs(1, 3, -8), BAD);
        t.due("costs(1, 1, 12)", y.costs(1, 1, 12), BAD);
        for (int k = 0; k < 3; k++) t.due("count(" + (2 + k) + ")", y.count(2 + k), k == 0 ? 1 : 2);
        t.due("no change", y.count(7), 0);
        t.due("the run stays", y.now(4), 3);

        t.ofPromise(9, "NO if all costs are so already");
        StackStates z = new StackStates();
        t.due("as at first", z.costs(1, 2, 2), NO);
        t.due("no change", z.count(7), 0);
        t.due("another move", z.costs(2, 2, 2), 122);
        t.due("another load", z.costs(2, 3, 2), 222);
        t.due("another store", z.costs(2, 3, 3), 232);
        t.due("no other", z.costs(2, 3, 3), NO);
        t.due("three changes", z.count(7), 3);
        z.costs(0, 0, 0);
        t.due("all 0", z.costs(0, 0, 0), NO);
        z.costs(9, 9, 9);
        t.due("all 9", z.costs(9, 9, 9), NO);
    }

    private void weights() {
        t.ofPromise(10, "Sets the weight of an instruction. - `i`: number of the instruction - `w`: 1 to 999");
        StackStates x = new StackStates();
        x.weigh(0, 999);
        x.weigh(15, 2);
        x.weigh(7, 500);
        for (int i = 0; i < 16; i++) t.due("weight " + i, x.code(i, 4), i == 0 ? 999 : i == 7 ? 500 : i == 15 ? 2 : 1);
        x.weigh(0, 1);
        t.due("back to 1", x.code(0, 4), 1);
        t.due("not reached", Check.laid("hh").weigh(1, 7), 1);
        t.due("the 24th", Check.laid("h".repeat(24)).weigh(23, 7), 1);
        t.due("the only one", Check.laid("h").weigh(0, 7), 1);

        t.ofPromise(10, "Returns the weight before");
        StackStates y = new StackStates();
        int[] weights = {1, 999, 998, 2, 1};
        for (int k = 1; k < weights.length; k++) t.due("weigh", y.weigh(3, weights[k]), weights[k - 1]);

        t.ofPromise(10, "BAD if an argument is out of range");
        StackStates z = running();
        for (int i : new int[] {-1, 16, 17, 23, 24, LOW, HIGH}) t.due("weigh(" + i + ", 5)", z.weigh(i, 5), BAD);
        for (int w : new int[] {0, 1000, -1, LOW, HIGH}) {
            t.due("weigh(0, " + w + ")", z.weigh(0, w), BAD);
            t.due("weigh(15, " + w + ")", z.weigh(15, w), BAD);
        }
        for (int i = 0; i < 16; i++) t.due("weight " + i, z.code(i, 4), 1);
        t.due("no change", z.count(7), 0);
        t.due("the run stays", z.now(4), 3);
        t.due("behind the only one", Check.laid("h").weigh(1, 7), BAD);
        t.due("behind the 24th", Check.laid("h".repeat(24)).weigh(24, 7), BAD);

        t.ofPromise(10, "NO if the weight is w already");
        StackStates no = running();
        t.due("weigh(0, 1)", no.weigh(0, 1), NO);
        t.due("no change", no.count(7), 0);
        t.due("the run stays", no.now(4), 3);
        no.weigh(0, 999);
        t.due("weigh(0, 999)", no.weigh(0, 999), NO);
        t.due("another one is 1 still", no.weigh(1, 999), 1);
        t.due("two changes", no.count(7), 2);
    }

    private void profileWeights() {
        t.ofPromise(11, "Sets all weights by the run: each becomes 1 plus how often the instruction was executed in it,"
                + " but at most 999.");
        int[] often = {0, 1, 2, 500, 997, 998, 999, 1000, 1500};
        for (int k : often) {
            StackStates x = Check.laid("n01j01h");
            for (int i = 0; i < 3; i++) x.weigh(i, 7);
            Sentences.run(x, k + 1);
            t.due("executed " + k + " times", x.went(1), k);
            t.due("profile()", x.profile(), 3);
            t.due("executed once", x.code(0, 4), 2);
            t.due("executed " + k + " times", x.code(1, 4), Math.min(999, k + 1));
            t.due("never executed", x.code(2, 4), 1);
        }
    }

    private void profileAnswers() {
        t.ofPromise(11, "Returns how many weights change");
        StackStates x = new StackStates();
        x.start();
        x.step(1);
        t.due("one", x.profile(), 1);
        x.start();
        x.step(500);
        t.due("all but the first", x.profile(), 15);
        x.start();
        t.due("all back to 1", x.profile(), 16);
        StackStates full = Sentences.after("n01".repeat(12) + "w".repeat(12), 24);
        t.due("24", full.profile(), 24);
        StackStates unreached = Check.laid("hh");
        unreached.weigh(1, 5);
        unreached.start();
        t.due("also of one that is not reached", unreached.profile(), 1);
        t.due("its weight", unreached.code(1, 4), 1);

        t.ofPromise(11, "NO if there is no run, or no weight would change");
        StackStates y = new StackStates();
        t.due("no run", y.profile(), NO);
        y.start();
        t.due("nothing executed", y.profile(), NO);
        t.due("the run stays", y.count(10), 1);
        t.due("no change", y.count(7), 0);
        y.step(70);
        t.due("the run has ended, but exists", y.profile(), 16);
        t.due("the run is gone", y.profile(), NO);
        y.start();
        y.step(70);
        t.due("the same weights", y.profile(), NO);
        t.due("the run stays", y.now(4), 70);
        t.due("one change", y.count(7), 1);
        // With 999 already, more than 998 executions change nothing.
        StackStates loop = Check.laid("j00");
        loop.weigh(0, 999);
        loop.start();
        loop.step(500);
        loop.step(497);
        t.due("997 times", loop.went(0), 997);
        loop.step(1);
        t.due("998 times", loop.profile(), NO);
        loop.step(1);
        t.due("999 times", loop.profile(), NO);
        loop.step(500);
        t.due("1499 times", loop.profile(), NO);
        t.due("one change", loop.count(7), 1);
    }

    private void undoing() {
        t.ofPromise(12, "Undoes the latest change that can be undone.");
        StackStates x = new StackStates();
        x.registers(3);
        x.costs(7, 8, 9);
        x.weigh(15, 33);
        x.start();
        x.step(70);
        x.profile();
        t.due("weight 15", x.code(15, 4), 2);
        x.undo();
        t.due("the profile is undone", x.code(15, 4), 33);
        t.due("the profile is undone", x.code(2, 4), 1);
        x.undo();
        t.due("the weight is undone", x.code(15, 4), 1);
        t.due("the costs stay", x.passage(0, 1), 8);
        x.undo();
        t.due("the costs are undone", x.costs(1, 2, 2), NO);
        t.due("the costs are undone", x.passage(0, 1), 2);
        t.due("R stays", x.count(1), 3);
        x.undo();
        t.due("R is undone", x.count(1), 2);
        t.due("R is undone", x.states(), 5);
        t.due("best()", x.best(), 1);

        t.ofPromise(12, "Returns how many changes can still be undone");
        StackStates y = new StackStates();
        for (int k = 2; k <= 7; k++) y.weigh(0, k);
        for (int k = 5; k >= 0; k--) t.due("undo()", y.undo(), k);

        t.ofPromise(12, "NO if none can");
        t.due("undo()", y.undo(), NO);
        t.due("weight", y.code(0, 4), 1);
        t.due("a new object", new StackStates().undo(), NO);
        StackStates z = running();
        t.due("undo()", z.undo(), NO);
        t.due("the run stays", z.now(4), 3);
        Check.rewrite(z, "h");
        z.weigh(1, 9);
        z.lay();
        t.due("after lay()", z.undo(), NO);
    }

    private void changes() {
        t.of("RUNS", "Changes are calls of registers(), costs(), weigh() and profile() that return no error.");
        StackStates x = new StackStates();
        x.registers(1);
        t.due("registers()", x.count(7), 1);
        x.costs(0, 0, 0);
        t.due("costs()", x.count(7), 2);
        x.weigh(0, 2);
        t.due("weigh()", x.count(7), 3);
        x.start();
        x.profile();
        t.due("profile()", x.count(7), 4);
        x.registers(1);
        x.registers(0);
        x.costs(0, 0, 0);
        x.costs(0, 0, 10);
        x.weigh(0, 1);
        x.weigh(0, 0);
        x.profile();
        x.start();
        x.profile();
        t.due("errors are no changes", x.count(7), 4);
        x.write('h');
        x.wipe();
        x.fault();
        x.lay();
        x.best();
        x.step(1);
        t.due("other calls are no changes", x.count(7), 4);
        t.due("undo()", x.undo(), 3);
        t.due("undo() is no change", x.count(7), 3);
    }

    private void gone(String call, StackStates x, boolean is) {
        t.due(call + ": count(10)", x.count(10), is ? 0 : 1);
        t.due(call + ": now(4)", x.now(4), is ? NO : 3);
    }

    private void endsOfRuns() {
        t.of("RUNS", "Each of them, and undo() and lay(), ends the existence of the run.");
        StackStates[] x = new StackStates[6];
        for (int k = 0; k < x.length; k++) {
            x[k] = new StackStates();
            x[k].weigh(9, 9);
            x[k].start();
            x[k].step(3);
            gone("before", x[k], false);
        }
        x[0].registers(3);
        x[1].costs(3, 3, 3);
        x[2].weigh(0, 3);
        x[3].profile();
        x[4].undo();
        x[5].write('h');
        gone("write()", x[5], false);
        x[5].fault();
        gone("fault()", x[5], false);
        x[5].lay();
        String[] names = {"registers()", "costs()", "weigh()", "profile()", "undo()", "lay()"};
        for (int k = 0; k < x.length; k++) {
            gone(names[k], x[k], true);
            t.due(names[k] + ": step(1)", x[k].step(1), NO);
            t.due(names[k] + ": profile()", x[k].profile(), NO);
            t.due(names[k] + ": start()", x[k].start(), 0);
            t.due(names[k] + ": a new run", x[k].now(4), 0);
        }
        StackStates refused = running();
        refused.undo();
        gone("undo() that returns NO", refused, false);
        refused.lay();
        gone("lay() that returns NO", refused, false);
    }

    private void latestSix() {
        t.of("RUNS", "The latest 6 changes can be undone.");
        StackStates x = new StackStates();
        for (int k = 1; k <= 20; k++) {
            x.weigh(0, 1 + k);
            t.due("changes", x.count(7), Math.min(k, 6));
        }
        for (int k = 5; k >= 0; k--) {
            t.due("undo()", x.undo(), k);
            t.due("weight", x.code(0, 4), 15 + k);
        }
        t.due("a seventh", x.undo(), NO);
        t.due("weight", x.code(0, 4), 15);
        // All orders of 13 changes and undos: the former weights are kept in a list here.
        for (int order = 0; order < 1 << 13; order++) tryOrder(order);
    }

    private void tryOrder(int order) {
        StackStates x = new StackStates();
        Deque<Integer> former = new ArrayDeque<>();
        int weight = 1;
        for (int k = 0; k < 13; k++) {
            if ((order >> k & 1) == 0) {
                former.push(weight);
                if (former.size() > 6) former.removeLast();
                t.due("order " + order + ", weigh", x.weigh(0, 10 + k), weight);
                weight = 10 + k;
            } else {
                t.due("order " + order + ", undo", x.undo(), former.isEmpty() ? NO : former.size() - 1);
                if (!former.isEmpty()) weight = former.pop();
            }
            t.due("order " + order + ", weight", x.code(0, 4), weight);
        }
    }
}
