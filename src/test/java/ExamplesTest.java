/** The four examples of the document, word by word. */
public final class ExamplesTest {
    private static final Check check = new Check();

    public static void main(String[] args) {
        statesAndFirstSteps();
        fiveInstructions();
        causesOfFaults();
        wholeRun();
        check.end();
    }

    private static void statesAndFirstSteps() {
        check.about("example 1");
        StackStates x = new StackStates();
        check.due("states()", x.states(), 5);
        check.due("state(4, 0)", x.state(4, 0), 1);
        check.due("state(4, 1)", x.state(4, 1), 0);
        check.due("passage(1, 2)", x.passage(1, 2), 1);
        check.due("passage(1, 0)", x.passage(1, 0), 2);
        check.due("passage(3, 4)", x.passage(3, 4), 5);
        check.due("version(0, 0, 0)", x.version(0, 0, 0), 1);
        check.due("version(6, 0, 1)", x.version(6, 0, 1), 6);
        check.due("best()", x.best(), 1);
        check.due("meets(3, 0)", x.meets(3, 0), 1);
        check.due("ifMeets(3, 0)", x.ifMeets(3, 0), 5);
        check.due("start()", x.start(), 0);
        check.due("step(5)", x.step(5), 5);
        check.due("now(3)", x.now(3), 0);
        check.due("cell(0)", x.cell(0), 5);
        check.due("register(0)", x.register(0), 5);
    }

    private static void fiveInstructions() {
        check.about("example 2");
        StackStates x = new StackStates();
        int[] letters = {110, 48, 53, 110, 48, 50, 43, 119, 104};
        for (int i = 0; i < letters.length; i++) check.due("write", x.write(letters[i]), i + 1);
        check.due("lay()", x.lay(), 5);
        check.due("best()", x.best(), 0);
        check.due("start()", x.start(), 0);
        check.due("step(9)", x.step(9), 5);
        check.due("out(0)", x.out(0), 7);
        check.due("now(0)", x.now(0), -4);
        check.due("profile()", x.profile(), 5);
    }

    private static void causesOfFaults() {
        check.about("example 3");
        StackStates x = new StackStates();
        check.due("write(98)", x.write(98), 1);
        check.due("write(48)", x.write(48), 2);
        check.due("write(48)", x.write(48), 3);
        check.due("fault()", x.fault(), -4);
        check.due("lay()", x.lay(), -2);
        check.due("cause(0)", x.cause(0), 3);
        check.due("cause(1)", x.cause(1), 22);
        check.due("cause(2)", x.cause(2), 30);
        check.due("write(106)", x.write(106), 4);
        check.due("fault()", x.fault(), 3);
        check.due("cause(1)", x.cause(1), 11);
        check.due("wipe()", x.wipe(), 4);
        check.due("lay()", x.lay(), -2);
        check.due("cause(0)", x.cause(0), 2);
        check.due("count(0)", x.count(0), 16);
        check.due("undo()", x.undo(), -2);
    }

    private static void wholeRun() {
        check.about("example 4");
        StackStates x = new StackStates();
        check.due("costs(0, 9, 9)", x.costs(0, 9, 9), 122);
        check.due("best()", x.best(), 0);
        check.due("registers(3)", x.registers(3), 2);
        check.due("states()", x.states(), 16);
        check.due("passage(1, 4)", x.passage(1, 4), 9);
        check.due("undo()", x.undo(), 1);
        check.due("undo()", x.undo(), 0);
        check.due("undo()", x.undo(), -2);
        check.due("weigh(4, 1)", x.weigh(4, 1), -2);
        check.due("weigh(4, 7)", x.weigh(4, 7), 1);
        check.due("best()", x.best(), 1);
        check.due("start()", x.start(), 0);
        check.due("step(500)", x.step(500), 70);
        check.due("out(4)", x.out(4), 3);
        check.due("variable(0)", x.variable(0), 0);
        check.due("went(15)", x.went(15), 1);
    }
}
