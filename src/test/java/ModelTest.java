import java.util.Random;

/** All promises: long runs of calls, whose answers must be those of the model. */
public final class ModelTest {
    private static final int CALLS = 480;

    private final Random random;
    private final Check check;
    private final StackStates x = new StackStates();
    private final Model model = new Model();
    private int calls = 0;

    private ModelTest(long seed, Check check) {
        this.random = new Random(seed);
        this.check = check;
        check.about("seed " + seed);
    }

    public static void main(String[] args) {
        Check check = new Check();
        int runs = args.length > 0 ? Integer.parseInt(args[0]) : 150;
        for (int seed = 1; seed <= runs && !check.failed(); seed++) new ModelTest(seed, check).go();
        check.end();
    }

    private void go() {
        while (calls < CALLS) {
            int way = random.nextInt(12);
            if (way < 2) writeAndLay();
            else if (way < 5) change();
            else if (way < 8) walk();
            else askSomething();
        }
    }

    private void due(String call, int got, int want) {
        calls++;
        check.due("call " + calls + ", " + call, got, want);
    }

    private int any(int low, int high) {
        int way = random.nextInt(40);
        if (way == 0) return Integer.MIN_VALUE + random.nextInt(3);
        if (way == 1) return Integer.MAX_VALUE - random.nextInt(3);
        return low + random.nextInt(high - low + 1);
    }

    private void writeAndLay() {
        // The model tries all choices, so the programs are short, and shorter with three registers.
        int most = model.count(1) == 3 ? 7 : model.count(1) == 2 ? 10 : 16;
        String text = Programs.fitting(random, 1 + random.nextInt(most));
        if (random.nextInt(4) == 0) text = Programs.spoilt(random, text);
        if (calls + text.length() + 4 > CALLS) {
            calls = CALLS;
            return;
        }
        if (random.nextInt(8) != 0) due("wipe()", x.wipe(), model.wipe());
        for (char letter : text.toCharArray()) due("write(" + letter + ")", x.write(letter), model.write(letter));
        if (random.nextInt(3) == 0) due("fault()", x.fault(), model.fault());
        if (model.count(8) <= 60) due("lay()", x.lay(), model.lay());
        for (int i = -1; i < 4; i++) due("cause(" + i + ")", x.cause(i), model.cause(i));
    }

    private void change() {
        int a = any(-1, 10);
        int b = any(-1, 10);
        switch (random.nextInt(7)) {
            case 0 -> {
                int r = model.count(0) > 7 ? any(1, 2) : any(0, 4);
                if (model.count(0) > 10 && r == 3) r = 2;
                due("registers(" + r + ")", x.registers(r), model.registers(r));
            }
            case 1, 2 -> {
                int c = any(0, 9);
                due("costs(" + a + ", " + b + ", " + c + ")", x.costs(a, b, c), model.costs(a, b, c));
            }
            case 3, 4 -> {
                int w = random.nextInt(10) == 0 ? any(997, 1001) : any(0, 9);
                due("weigh(" + a + ", " + w + ")", x.weigh(a, w), model.weigh(a, w));
            }
            case 5 -> due("profile()", x.profile(), model.profile());
            default -> due("undo()", x.undo(), model.undo());
        }
        for (int what = 0; what <= 10; what++) {
            if (random.nextInt(6) == 0) due("count(" + what + ")", x.count(what), model.count(what));
        }
    }

    private boolean tooDear() {
        int n = model.count(0);
        return n > 16 || model.count(1) == 3 && n > 9 || model.count(1) == 2 && n > 12;
    }

    private void walk() {
        if (tooDear()) {
            if (model.count(1) != 1) due("registers(1)", x.registers(1), model.registers(1));
            return;
        }
        if (random.nextInt(3) != 0) due("start()", x.start(), model.start());
        for (int k = random.nextInt(4); k >= 0; k--) {
            int n = random.nextInt(12) == 0 ? any(490, 510) : any(0, 6);
            due("step(" + n + ")", x.step(n), model.step(n));
            lookAtRun();
        }
    }

    private void lookAtRun() {
        for (int what = -1; what <= 6; what++) {
            if (random.nextInt(3) == 0) due("now(" + what + ")", x.now(what), model.now(what));
        }
        for (int k = 0; k < 3; k++) {
            int i = any(-1, 8);
            switch (random.nextInt(7)) {
                case 0 -> due("cell(" + i + ")", x.cell(i), model.cell(i));
                case 1 -> due("memory(" + i + ")", x.memory(i), model.memory(i));
                case 2 -> due("variable(" + i + ")", x.variable(i), model.variable(i));
                case 3 -> due("out(" + i + ")", x.out(i), model.out(i));
                case 4 -> due("went(" + i + ")", x.went(i), model.went(i));
                default -> due("register(" + i + ")", x.register(i), model.register(i));
            }
        }
    }

    private void askSomething() {
        int i = any(-1, model.count(0));
        int s = any(-1, model.states());
        int what = any(-1, 5);
        switch (random.nextInt(9)) {
            case 0 -> due("code(" + i + ", " + what + ")", x.code(i, what), model.code(i, what));
            case 1 -> due("states()", x.states(), model.states());
            case 2 -> due("state(" + s + ", " + (what - 1) + ")", x.state(s, what - 1), model.state(s, what - 1));
            case 3 -> due("passage(" + s + ", " + i + ")", x.passage(s, i), model.passage(s, i));
            case 4 -> due("version(" + i + ", " + s + ", " + what + ")",
                    x.version(i, s, what), model.version(i, s, what));
            case 5 -> lookAtRun();
            default -> askChoice(i, s);
        }
    }

    private void askChoice(int i, int s) {
        if (tooDear()) return;
        due("best()", x.best(), model.best());
        due("ifMeets(" + i + ", " + s + ")", x.ifMeets(i, s), model.ifMeets(i, s));
        for (int k = -1; k <= model.count(0); k++) {
            if (random.nextInt(2) == 0) due("meets(" + k + ", 0)", x.meets(k, 0), model.meets(k, 0));
        }
        int what = any(-1, 2);
        due("meets(" + i + ", " + what + ")", x.meets(i, what), model.meets(i, what));
    }
}
