import java.util.ArrayList;
import java.util.List;

/** The sentences of ERRORS. */
final class ErrorSentences {
    private static final int BAD = StackStates.BAD;
    private static final int NO = StackStates.NO;
    private static final int FULL = StackStates.FULL;
    private static final int NONE = StackStates.NONE;
    private static final int LOW = Integer.MIN_VALUE;
    private static final int HIGH = Integer.MAX_VALUE;

    private interface Call {
        int on(StackStates x);
    }

    private record Refusal(String name, int error, Call call) { }

    /** Objects made anew, all alike, on which calls are refused. */
    private interface Making {
        StackStates make();
    }

    private final Sentences t;

    ErrorSentences(Sentences t) {
        this.t = t;
    }

    void all() {
        reports();
        firstOfSeveral();
        errorsBeforeNone();
        badArguments();
        refusals();
        nothingChanges();
        modulo();
    }

    // ---- refused calls

    // For a program of five instructions and two registers, with the costs 3, 4, 5, and this weight of the first one.
    private static List<Refusal> always(int weight) {
        List<Refusal> list = new ArrayList<>();
        for (int letter : new int[] {31, 127, LOW, HIGH}) list.add(new Refusal("write", BAD, x -> x.write(letter)));
        for (int i : new int[] {-1, LOW}) {
            list.add(new Refusal("cause", BAD, x -> x.cause(i)));
            list.add(new Refusal("register of a state", BAD, x -> x.state(0, Math.min(i, -2))));
            list.add(new Refusal("cell", BAD, x -> x.cell(i)));
            list.add(new Refusal("memory", BAD, x -> x.memory(i)));
            list.add(new Refusal("out", BAD, x -> x.out(i)));
        }
        for (int i : new int[] {-1, 5, LOW, HIGH}) {
            list.add(new Refusal("code of " + i, BAD, x -> x.code(i, 0)));
            list.add(new Refusal("weigh " + i, BAD, x -> x.weigh(i, 7)));
            list.add(new Refusal("version of " + i, BAD, x -> x.version(i, 0, 0)));
            list.add(new Refusal("meets of " + i, BAD, x -> x.meets(i, 0)));
            list.add(new Refusal("ifMeets of " + i, BAD, x -> x.ifMeets(i, 0)));
            list.add(new Refusal("went of " + i, BAD, x -> x.went(i)));
            list.add(new Refusal("state " + i, BAD, x -> x.state(i, 0)));
            list.add(new Refusal("passage from " + i, BAD, x -> x.passage(i, 0)));
            list.add(new Refusal("passage to " + i, BAD, x -> x.passage(0, i)));
            list.add(new Refusal("version in " + i, BAD, x -> x.version(0, i, 0)));
            list.add(new Refusal("ifMeets in " + i, BAD, x -> x.ifMeets(0, i)));
            list.add(new Refusal("code, what " + i, BAD, x -> x.code(0, i)));
        }
        wrongNumbers(list);
        list.add(new Refusal("the same R", NO, x -> x.registers(2)));
        list.add(new Refusal("the same costs", NO, x -> x.costs(3, 4, 5)));
        list.add(new Refusal("the same weight", NO, x -> x.weigh(0, weight)));
        return list;
    }

    private static void wrongNumbers(List<Refusal> list) {
        for (int k : new int[] {-1, LOW, HIGH}) {
            list.add(new Refusal("registers " + k, BAD, x -> x.registers(k)));
            list.add(new Refusal("move " + k, BAD, x -> x.costs(k, 1, 1)));
            list.add(new Refusal("load " + k, BAD, x -> x.costs(1, k, 1)));
            list.add(new Refusal("store " + k, BAD, x -> x.costs(1, 1, k)));
            list.add(new Refusal("weight " + k, BAD, x -> x.weigh(0, k)));
            list.add(new Refusal("version, what " + k, BAD, x -> x.version(0, 0, k)));
            list.add(new Refusal("meets, what " + k, BAD, x -> x.meets(0, k)));
            list.add(new Refusal("step " + k, BAD, x -> x.step(k)));
            list.add(new Refusal("now " + k, BAD, x -> x.now(k)));
            list.add(new Refusal("register " + k, BAD, x -> x.register(k)));
            list.add(new Refusal("variable " + k, BAD, x -> x.variable(k)));
            list.add(new Refusal("count " + k, BAD, x -> x.count(k)));
        }
        list.add(new Refusal("registers(0)", BAD, x -> x.registers(0)));
        list.add(new Refusal("registers(4)", BAD, x -> x.registers(4)));
        list.add(new Refusal("costs(10, 1, 1)", BAD, x -> x.costs(10, 1, 1)));
        list.add(new Refusal("costs(1, 10, 1)", BAD, x -> x.costs(1, 10, 1)));
        list.add(new Refusal("costs(1, 1, 10)", BAD, x -> x.costs(1, 1, 10)));
        list.add(new Refusal("weigh(0, 0)", BAD, x -> x.weigh(0, 0)));
        list.add(new Refusal("weigh(0, 1000)", BAD, x -> x.weigh(0, 1000)));
        list.add(new Refusal("version, what 3", BAD, x -> x.version(0, 0, 3)));
        list.add(new Refusal("meets, what 2", BAD, x -> x.meets(0, 2)));
        list.add(new Refusal("step(0)", BAD, x -> x.step(0)));
        list.add(new Refusal("step(501)", BAD, x -> x.step(501)));
        list.add(new Refusal("now(6)", BAD, x -> x.now(6)));
        list.add(new Refusal("register(2)", BAD, x -> x.register(2)));
        list.add(new Refusal("variable(4)", BAD, x -> x.variable(4)));
        list.add(new Refusal("count(11)", BAD, x -> x.count(11)));
    }

    private static List<Refusal> withoutRun() {
        List<Refusal> list = always(6);
        list.add(new Refusal("profile()", NO, x -> x.profile()));
        list.add(new Refusal("step(1)", NO, x -> x.step(1)));
        list.add(new Refusal("now(0)", NO, x -> x.now(0)));
        list.add(new Refusal("cell(0)", NO, x -> x.cell(0)));
        list.add(new Refusal("register(0)", NO, x -> x.register(0)));
        list.add(new Refusal("memory(0)", NO, x -> x.memory(0)));
        list.add(new Refusal("variable(0)", NO, x -> x.variable(0)));
        list.add(new Refusal("out(0)", NO, x -> x.out(0)));
        list.add(new Refusal("went(0)", NO, x -> x.went(0)));
        list.add(new Refusal("lay()", NO, x -> x.lay()));
        return list;
    }

    private static List<Refusal> withEndedRun() {
        List<Refusal> list = always(2);
        list.add(new Refusal("step(1)", NO, x -> x.step(1)));
        list.add(new Refusal("profile()", NO, x -> x.profile()));
        list.add(new Refusal("a 201st character", FULL, x -> x.write('h')));
        list.add(new Refusal("lay()", NO, x -> x.lay()));
        return list;
    }

    private static List<Refusal> withFreshRun() {
        List<Refusal> list = always(1);
        list.add(new Refusal("undo()", NO, x -> x.undo()));
        list.add(new Refusal("lay()", NO, x -> x.lay()));
        return list;
    }

    // Four changes that can be undone, a text with a flaw, and no run.
    private static StackStates changed() {
        StackStates x = Check.laid("n01n02o-w");
        x.registers(3);
        x.costs(3, 4, 5);
        x.weigh(0, 6);
        x.registers(2);
        Check.rewrite(x, "n01+");
        x.lay();
        return x;
    }

    // Six changes that can be undone, a full text, and a run that has ended, whose profile is known already.
    private static StackStates ended() {
        StackStates x = Check.laid("g0n01-s0h");
        x.costs(3, 4, 5);
        for (int i = 0; i < 5; i++) x.weigh(i, 2);
        for (int k = 9; k < 200; k++) x.write('h');
        x.start();
        x.step(500);
        return x;
    }

    // No change that can be undone, an empty text, and a run in the midst; the program is laid last.
    private static StackStates fresh() {
        StackStates x = new StackStates();
        x.costs(3, 4, 5);
        Check.rewrite(x, "n07n08n09*-");
        x.lay();
        x.wipe();
        x.start();
        x.step(3);
        return x;
    }

    private static void ask(List<Integer> answers, StackStates x) {
        for (int what = 0; what < 11; what++) if (what != 9) answers.add(x.count(what));
        for (int what = 0; what < 6; what++) answers.add(x.now(what));
        for (int i = 0; i < 5; i++) {
            for (int what = 0; what < 5; what++) answers.add(x.code(i, what));
            answers.add(x.meets(i, 0));
            answers.add(x.meets(i, 1));
            answers.add(x.went(i));
            answers.add(x.cell(i));
            answers.add(x.memory(i));
            answers.add(x.register(i));
            answers.add(x.variable(i));
            answers.add(x.out(i));
        }
        for (int s = 0; s < 5; s++) {
            for (int i = -1; i < 3; i++) answers.add(x.state(s, i));
            for (int u = 0; u < 5; u++) answers.add(x.passage(s, u));
            for (int i = 0; i < 5; i++) answers.add(x.ifMeets(i, s));
        }
        answers.add(x.states());
        answers.add(x.best());
    }

    // All that can be seen now, and what comes later: steps, undoing, the text, and a profile.
    private static List<Integer> picture(StackStates x) {
        List<Integer> answers = new ArrayList<>();
        ask(answers, x);
        answers.add(x.step(2));
        for (int what = 0; what < 6; what++) answers.add(x.now(what));
        answers.add(x.fault());
        answers.add(x.profile());
        for (int k = 0; k < 7; k++) {
            answers.add(x.undo());
            for (int what = 1; what < 5; what++) answers.add(x.count(what));
            answers.add(x.code(0, 4));
            answers.add(x.code(4, 4));
        }
        answers.add(x.wipe());
        return answers;
    }

    private void unchanged(String when, Making objects, List<Refusal> refusals) {
        List<Integer> due = picture(objects.make());
        for (Refusal refusal : refusals) {
            StackStates x = objects.make();
            t.due(refusal.name() + " " + when, refusal.call().on(x), refusal.error());
            t.isTrue("nothing changed by " + refusal.name() + " " + when, picture(x).equals(due));
        }
    }

    // ---- the tests

    private static final int[] NUMBERS = {LOW, LOW + 1, -1000, -5, -4, -3, -2, -1, 0, 1, 2, 3, 4, 5, 6, 9, 10, 11, 12,
        15, 16, 17, 23, 24, 25, 31, 32, 126, 127, 199, 200, 201, 499, 500, 501, 998, 999, 1000, 65536, HIGH - 1, HIGH};

    private static List<Call> allCalls(int a, int b, int c) {
        return List.of(x -> x.write(a), x -> x.cause(a), x -> x.code(a, b), x -> x.registers(a), x -> x.costs(a, b, c),
            x -> x.weigh(a, b), x -> x.state(a, b), x -> x.passage(a, b), x -> x.version(a, b, c), x -> x.meets(a, b),
            x -> x.ifMeets(a, b), x -> x.step(a), x -> x.now(a), x -> x.cell(a), x -> x.register(a), x -> x.memory(a),
            x -> x.variable(a), x -> x.out(a), x -> x.went(a), x -> x.count(a), x -> x.wipe(), x -> x.fault(),
            x -> x.lay(), x -> x.profile(), x -> x.undo(), x -> x.states(), x -> x.best(), x -> x.start());
    }

    private void answers(Call call, StackStates x, String name) {
        int answer = LOW;
        try {
            answer = call.on(x);
        } catch (RuntimeException | Error thrown) {
            t.isTrue(name + " threw " + thrown, false);
        }
        t.isTrue(name + " answered " + answer, answer >= NONE);
    }

    private void reports() {
        t.of("ERRORS", "An error is reported by the return value.");
        for (Making objects : new Making[] {StackStates::new, ErrorSentences::changed, ErrorSentences::ended,
            ErrorSentences::fresh}) {
            for (int a : NUMBERS) {
                StackStates x = objects.make();
                for (int b : new int[] {LOW, -2, -1, 0, 1, 3, HIGH}) {
                    int k = 0;
                    for (Call call : allCalls(a, b, b)) answers(call, x, "call " + k++ + " with " + a + ", " + b);
                }
            }
        }
    }

    private void firstOfSeveral() {
        t.of("ERRORS", "If several errors apply, the one that comes first in the description of the result is returned");
        StackStates x = new StackStates();
        t.due("now(6) without a run", x.now(6), BAD);
        t.due("now(-1) without a run", x.now(-1), BAD);
        t.due("cell(-1) without a run", x.cell(-1), BAD);
        t.due("register(-1) without a run", x.register(-1), BAD);
        t.due("register(2) without a run", x.register(2), BAD);
        t.due("memory(-1) without a run", x.memory(-1), BAD);
        t.due("variable(-1) without a run", x.variable(-1), BAD);
        t.due("variable(4) without a run", x.variable(4), BAD);
        t.due("out(-1) without a run", x.out(-1), BAD);
        t.due("went(-1) without a run", x.went(-1), BAD);
        t.due("went(16) without a run", x.went(16), BAD);
        t.due("step(0) without a run", x.step(0), BAD);
        t.due("step(501) without a run", x.step(501), BAD);
        // The other arguments are those that would be answered by NO.
        t.due("costs(10, 2, 2)", x.costs(10, 2, 2), BAD);
        t.due("weigh(16, 1)", x.weigh(16, 1), BAD);
        t.due("weigh(-1, 1)", x.weigh(-1, 1), BAD);
        StackStates full = ended();
        t.due("write(31) into a full text", full.write(31), BAD);
        t.due("write(127) into a full text", full.write(127), BAD);
        t.due("step(0) after the end", full.step(0), BAD);
        t.due("step(501) after the end", full.step(501), BAD);
    }

    private void errorsBeforeNone() {
        t.of("ERRORS", "all errors are checked before NONE (there is no value) is returned.");
        StackStates x = Check.laid("j02n01h");
        t.due("code(1, 5), not reached", x.code(1, 5), BAD);
        t.due("code(1, -1), not reached", x.code(1, -1), BAD);
        t.due("state(5, 9)", x.state(5, 9), BAD);
        t.due("state(-1, 9)", x.state(-1, 9), BAD);
        t.due("version(1, 4, 3), no version", x.version(1, 4, 3), BAD);
        t.due("version(1, 4, -1), no version", x.version(1, 4, -1), BAD);
        t.due("meets(1, 2), not reached", x.meets(1, 2), BAD);
        t.due("meets(1, -1), not reached", x.meets(1, -1), BAD);
        t.due("ifMeets(1, 5), not reached", x.ifMeets(1, 5), BAD);
        t.due("ifMeets(1, -1), not reached", x.ifMeets(1, -1), BAD);
        t.due("now(0) without a run", x.now(0), NO);
        t.due("cell(99) without a run", x.cell(99), NO);
        t.due("register(1) without a run", x.register(1), NO);
        t.due("memory(99) without a run", x.memory(99), NO);
        t.due("out(99) without a run", x.out(99), NO);
        x.start();
        t.due("cell(99)", x.cell(99), NONE);
        t.due("register(1)", x.register(1), NONE);
        t.due("memory(99)", x.memory(99), NONE);
        t.due("out(99)", x.out(99), NONE);
    }

    private void badArguments() {
        t.of("ERRORS", "BAD: an argument is out of range, or names something that does not exist.");
        for (Refusal refusal : always(6)) {
            if (refusal.error() == BAD) t.due(refusal.name(), refusal.call().on(changed()), BAD);
        }
        // What does not exist depends on the program and on R.
        StackStates x = new StackStates();
        t.due("instruction 15", x.code(15, 0), 'h');
        t.due("state 4", x.state(4, -1), 2);
        Check.rewrite(x, "h");
        x.lay();
        x.registers(1);
        t.due("instruction 15 exists no more", x.code(15, 0), BAD);
        t.due("instruction 1", x.code(1, 0), BAD);
        t.due("state 4 exists no more", x.state(4, -1), BAD);
        t.due("state 2", x.state(2, -1), BAD);
        x.start();
        t.due("register 1 exists no more", x.register(1), BAD);
        x.registers(3);
        x.start();
        t.due("register 2 exists now", x.register(2), NONE);
        t.due("state 15 exists now", x.state(15, -1), 3);
        t.due("state 16", x.state(16, -1), BAD);
    }

    private void refusals() {
        t.of("ERRORS", "NO and FULL: as told at the methods.");
        for (Refusal refusal : withoutRun()) t.due(refusal.name(), refusal.call().on(changed()), refusal.error());
        for (Refusal refusal : withEndedRun()) t.due(refusal.name(), refusal.call().on(ended()), refusal.error());
        for (Refusal refusal : withFreshRun()) t.due(refusal.name(), refusal.call().on(fresh()), refusal.error());
    }

    private void shown(String text, int due) {
        StackStates x = Check.laid(text + "ds0dwn01n01");
        Sentences.run(x, x.count(0) - 6);
        t.due("register of " + text, x.register(x.state(x.now(1), 0)), due);
        x.step(4);
        t.due("cell of " + text, x.cell(0), due);
        t.due("variable of " + text, x.variable(0), due);
        t.due("output of " + text, x.out(0), due);
        x.step(2);
        t.due("memory of " + text, x.memory(0), due);
        t.due("cell of " + text, x.cell(2), due);
    }

    private void modulo() {
        t.of("ERRORS", "Cells are returned modulo ZERO, from 0 on (Math.floorMod).");
        shown("n00", 0);
        shown("n99", 99);
        shown("n00n01-", 999999999);
        shown(ProgramSentences.TEN_9 + "n01-", 999999999);
        shown(ProgramSentences.TEN_9, 0);
        shown(ProgramSentences.TEN_9 + "n01+", 1);
        shown("n01" + ProgramSentences.TEN_9 + "-", 1);
        shown("n00" + ProgramSentences.TEN_9 + "-", 0);
        shown("n00" + ProgramSentences.TEN_9 + "-n01-", 999999999);
        shown(ProgramSentences.TWO_30 + "d+", ProgramSentences.SMALLEST);
        shown(ProgramSentences.TWO_30 + "d+n01-", ProgramSentences.GREATEST);
    }

    private void nothingChanges() {
        t.of("ERRORS", "A call that returns an error changes nothing but the causes.");
        unchanged("without a run", ErrorSentences::changed, withoutRun());
        unchanged("after the end", ErrorSentences::ended, withEndedRun());
        unchanged("in a run", ErrorSentences::fresh, withFreshRun());
        // lay() and fault() change the causes; other errors leave them.
        StackStates x = new StackStates();
        Check.rewrite(x, "p");
        x.lay();
        for (Refusal refusal : always(1)) {
            if (refusal.error() == BAD) refusal.call().on(x);
        }
        x.undo();
        x.profile();
        x.step(1);
        int[] causes = {3, 22, 30, NONE};
        for (int i = 0; i < 4; i++) t.due("cause(" + i + ")", x.cause(i), causes[i]);
        x.wipe();
        x.lay();
        t.due("lay() changes them", x.cause(0), 2);
        t.due("lay() changes them", x.count(9), 1);
    }
}
