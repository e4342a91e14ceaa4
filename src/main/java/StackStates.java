import java.util.Arrays;

/**
 * Code generation for a stack machine whose top stack cells are cached in registers. All rows are made
 * with the object and used again, so that no call makes an object.
 */
public final class StackStates {
    public static final int BAD = -1, NO = -2, FULL = -3, NONE = -4, ZERO = 1000000000;

    private static final int MOST_INSTRUCTIONS = 24;
    private static final int MOST_LETTERS = 200;
    private static final int MOST_CELLS = 12;
    private static final int MOST_TARGETS = 2;
    private static final int MOST_REGISTERS = 3;
    private static final int MOST_STATES = 16;
    private static final int MOST_OUTPUTS = 16;
    private static final int MOST_UNDONE = 6;
    private static final int MOST_CAUSES = 3;
    private static final int MOST_COST = 9;
    private static final int MOST_WEIGHT = 999;
    private static final int MOST_STEPS = 500;
    private static final int VARIABLES = 4;

    private static final String FIRST_PROGRAM = "n05s0g0b15g0n03*dwpg0n01-s0j02h";

    // The kinds of instructions are the indices of their characters here.
    private static final String SIGNS = "n+-*dxporgsjbwh";
    private static final int[] TAKES = {0, 2, 2, 2, 1, 2, 1, 2, 3, 0, 1, 0, 1, 1, 0};
    private static final int[] COMES = {1, 1, 1, 1, 2, 2, 0, 3, 3, 1, 0, 0, 0, 0, 0};
    private static final int[] DIGITS = {2, 0, 0, 0, 0, 0, 0, 0, 0, 1, 1, 2, 2, 0, 0};
    private static final int NUMBER = 0;
    private static final int PLUS = 1;
    private static final int MINUS = 2;
    private static final int TIMES = 3;
    private static final int DUPLICATE = 4;
    private static final int EXCHANGE = 5;
    private static final int REMOVE = 6;
    private static final int OVER = 7;
    private static final int ROTATE = 8;
    private static final int GET = 9;
    private static final int SET = 10;
    private static final int JUMP = 11;
    private static final int BRANCH = 12;
    private static final int OUTPUT = 13;
    private static final int HALT = 14;

    private static final int CAUSE_FAULT = 1;
    private static final int CAUSE_EMPTY = 2;
    private static final int CAUSE_FLAW = 3;
    private static final int NO_SUCH_SIGN = 10;
    private static final int DIGIT_MISSING = 11;
    private static final int NO_SUCH_VARIABLE = 12;
    private static final int TOO_MANY = 13;
    private static final int NO_SUCH_TARGET = 14;
    private static final int TWO_DEPTHS = 21;
    private static final int WRONG_DEPTH = 22;
    private static final int TOO_MANY_TARGETS = 23;
    private static final int CAUSE_NUMBER = 30;

    private final Text text = new Text();
    private final Causes causes = new Causes();
    private final Settings settings = new Settings();
    private final Machine machine = new Machine();
    private final Program program = new Program();
    // What is read may have flaws, and then the program must stay; so it is read here first.
    private final Program draft = new Program();
    private final Chooser chooser = new Chooser(program, machine, settings);
    private final Run run = new Run(program, machine, chooser);

    public StackStates() {
        for (int i = 0; i < FIRST_PROGRAM.length(); i++) text.append(FIRST_PROGRAM.charAt(i));
        program.parse(text, causes);
        program.findDepths(causes);
        text.empty();
        refresh();
    }

    // ---- programs

    public int write(int letter) {
        if (letter < 32 || letter > 126) return BAD;
        if (text.length == MOST_LETTERS) return FULL;
        text.append(letter);
        return text.length;
    }

    public int wipe() {
        return text.empty();
    }

    public int fault() {
        return draft.parse(text, causes);
    }

    public int lay() {
        if (draft.parse(text, causes) != NONE) return NO;
        if (draft.size == 0) {
            causes.append(CAUSE_EMPTY);
            return NO;
        }
        if (!draft.findDepths(causes)) return NO;
        program.become(draft);
        settings.forgetChanges();
        settings.resetWeights();
        refresh();
        return program.size;
    }

    public int cause(int i) {
        if (i < 0) return BAD;
        return i < causes.length ? causes.list[i] : NONE;
    }

    public int code(int i, int what) {
        if (!isInstruction(i) || what < 0 || what > 4) return BAD;
        switch (what) {
            case 0: return SIGNS.charAt(program.kinds[i]);
            case 1: return DIGITS[program.kinds[i]] > 0 ? program.numbers[i] : NONE;
            case 2: return program.isReached(i) ? program.depths[i] : NONE;
            case 3: return program.isTarget[i] ? 1 : 0;
            default: return settings.weights[i];
        }
    }

    // ---- changes

    public int registers(int r) {
        if (r < 1 || r > MOST_REGISTERS) return BAD;
        int former = settings.registers;
        if (former == r) return NO;
        settings.remember();
        settings.registers = r;
        refresh();
        return former;
    }

    public int costs(int move, int load, int store) {
        if (!isCost(move) || !isCost(load) || !isCost(store)) return BAD;
        if (settings.move == move && settings.load == load && settings.store == store) return NO;
        int former = 100 * settings.move + 10 * settings.load + settings.store;
        settings.remember();
        settings.move = move;
        settings.load = load;
        settings.store = store;
        refresh();
        return former;
    }

    public int weigh(int i, int w) {
        if (!isInstruction(i) || w < 1 || w > MOST_WEIGHT) return BAD;
        int former = settings.weights[i];
        if (former == w) return NO;
        settings.remember();
        settings.weights[i] = w;
        refresh();
        return former;
    }

    public int profile() {
        if (!run.exists) return NO;
        int changed = 0;
        for (int i = 0; i < program.size; i++) {
            if (settings.weights[i] != run.weightOf(i)) changed++;
        }
        if (changed == 0) return NO;
        settings.remember();
        for (int i = 0; i < program.size; i++) settings.weights[i] = run.weightOf(i);
        refresh();
        return changed;
    }

    public int undo() {
        if (settings.remembered == 0) return NO;
        settings.recall();
        refresh();
        return settings.remembered;
    }

    // ---- states and choices

    public int states() {
        return machine.size;
    }

    public int state(int s, int i) {
        if (!isState(s) || i < -1) return BAD;
        int length = machine.lengthOf(s);
        if (i == -1) return length;
        return i < length ? machine.registerOf(s, i) : NONE;
    }

    public int passage(int s, int t) {
        if (!isState(s) || !isState(t)) return BAD;
        return machine.passageCost(s, t);
    }

    public int version(int i, int s, int what) {
        if (!isInstruction(i) || !isState(s) || what < 0 || what > 2) return BAD;
        int kind = program.kinds[i];
        if (!machine.hasVersion(kind, s)) return NONE;
        switch (what) {
            case 0: return machine.stateAfter(kind, s);
            case 1: return machine.versionCost(kind, s);
            default: return machine.isPlain(kind, s) ? 1 : 0;
        }
    }

    public int best() {
        chooser.choose();
        return chooser.cost;
    }

    public int meets(int i, int what) {
        if (!isInstruction(i) || what < 0 || what > 1) return BAD;
        if (!program.isReached(i)) return NONE;
        chooser.choose();
        int s = chooser.chosen[i];
        return what == 0 ? s : machine.stateAfter(program.kinds[i], s);
    }

    public int ifMeets(int i, int s) {
        if (!isInstruction(i) || !isState(s)) return BAD;
        if (!program.isReached(i)) return NONE;
        chooser.findLeast();
        return chooser.leastWith(i, s);
    }

    // ---- runs

    public int start() {
        chooser.choose();
        run.begin();
        return run.present;
    }

    public int step(int n) {
        if (n < 1 || n > MOST_STEPS) return BAD;
        if (!run.exists || run.ended) return NO;
        int before = run.steps;
        for (int k = 0; k < n && !run.ended; k++) run.advance();
        return run.steps - before;
    }

    public int now(int what) {
        if (what < 0 || what > 5) return BAD;
        if (!run.exists) return NO;
        switch (what) {
            case 0: return run.ended ? NONE : run.at;
            case 1: return run.present;
            case 2: return run.height;
            case 3: return run.paid;
            case 4: return run.steps;
            default: return run.written;
        }
    }

    public int cell(int i) {
        if (i < 0) return BAD;
        if (!run.exists) return NO;
        return i < run.height ? shown(run.cellAt(i)) : NONE;
    }

    public int register(int r) {
        if (r < 0 || r >= settings.registers) return BAD;
        if (!run.exists) return NO;
        int length = machine.lengthOf(run.present);
        for (int i = 0; i < length; i++) {
            if (machine.registerOf(run.present, i) == r) return shown(run.cellAt(i));
        }
        return NONE;
    }

    public int memory(int i) {
        if (i < 0) return BAD;
        if (!run.exists) return NO;
        int inMemory = run.height - machine.lengthOf(run.present);
        return i < inMemory ? shown(run.cellAt(run.height - 1 - i)) : NONE;
    }

    public int variable(int k) {
        if (k < 0 || k >= VARIABLES) return BAD;
        if (!run.exists) return NO;
        return shown(run.variables[k]);
    }

    public int out(int i) {
        if (i < 0) return BAD;
        if (!run.exists) return NO;
        return i < run.written ? shown(run.outputs[i]) : NONE;
    }

    public int went(int i) {
        if (!isInstruction(i)) return BAD;
        if (!run.exists) return NO;
        return run.executed[i];
    }

    public int count(int what) {
        switch (what) {
            case 0: return program.size;
            case 1: return settings.registers;
            case 2: return settings.move;
            case 3: return settings.load;
            case 4: return settings.store;
            case 5: return program.reached;
            case 6: return program.targets;
            case 7: return settings.remembered;
            case 8: return text.length;
            case 9: return causes.length;
            case 10: return run.exists ? 1 : 0;
            default: return BAD;
        }
    }

    private boolean isInstruction(int i) {
        return i >= 0 && i < program.size;
    }

    private boolean isState(int s) {
        return s >= 0 && s < machine.size;
    }

    private static boolean isCost(int cost) {
        return cost >= 0 && cost <= MOST_COST;
    }

    private static int shown(int cell) {
        return Math.floorMod(cell, ZERO);
    }

    // What was found for the former program and settings holds no more.
    private void refresh() {
        machine.equip(settings);
        chooser.forget();
        run.exists = false;
    }

    /** The text that is being written. */
    private static final class Text {
        final int[] letters = new int[MOST_LETTERS];
        int length = 0;

        void append(int letter) {
            if (length < letters.length) letters[length++] = letter;
        }

        int empty() {
            int former = length;
            length = 0;
            return former;
        }

        int letterAt(int i) {
            return i >= 0 && i < length ? letters[i] : 0;
        }

        boolean hasDigitAt(int i) {
            return letterAt(i) >= '0' && letterAt(i) <= '9';
        }
    }

    /** Why the latest text had a fault or could not be laid. */
    private static final class Causes {
        final int[] list = new int[MOST_CAUSES];
        int length = 0;

        void append(int cause) {
            if (length < list.length) list[length++] = cause;
        }
    }

    /** The instructions of a text, their depths and the targets. */
    private static final class Program {
        final int[] kinds = new int[MOST_INSTRUCTIONS];
        final int[] numbers = new int[MOST_INSTRUCTIONS];
        final int[] places = new int[MOST_INSTRUCTIONS];
        final int[] depths = new int[MOST_INSTRUCTIONS];
        final boolean[] considered = new boolean[MOST_INSTRUCTIONS];
        final boolean[] isTarget = new boolean[MOST_INSTRUCTIONS];
        int size = 0;
        int reached = 0;
        int targets = 0;

        /** Returns the fault of the text, and lists its causes. */
        int parse(Text text, Causes causes) {
            causes.length = 0;
            size = 0;
            int place = 0;
            for (int k = 0; k <= MOST_INSTRUCTIONS && place < text.length; k++) {
                int reason = parseInstruction(text, place);
                if (reason != NONE) return faulty(place, reason, causes);
                place += 1 + DIGITS[kinds[size - 1]];
            }
            for (int i = 0; i < size; i++) {
                if (leads(i) && numbers[i] >= size) return faulty(places[i], NO_SUCH_TARGET, causes);
            }
            return NONE;
        }

        private static int faulty(int place, int reason, Causes causes) {
            causes.append(CAUSE_FAULT);
            causes.append(reason);
            return place;
        }

        private int parseInstruction(Text text, int place) {
            if (size == MOST_INSTRUCTIONS) return TOO_MANY;
            int kind = SIGNS.indexOf((char) text.letterAt(place));
            if (kind < 0) return NO_SUCH_SIGN;
            int number = 0;
            for (int k = 1; k <= DIGITS[kind]; k++) {
                if (!text.hasDigitAt(place + k)) return DIGIT_MISSING;
                number = 10 * number + text.letterAt(place + k) - '0';
            }
            if ((kind == GET || kind == SET) && number >= VARIABLES) return NO_SUCH_VARIABLE;
            kinds[size] = kind;
            numbers[size] = number;
            places[size] = place;
            size++;
            return NONE;
        }

        /** Returns whether the program, which has no fault, has no flaw; else lists the causes. */
        boolean findDepths(Causes causes) {
            for (int i = 0; i < MOST_INSTRUCTIONS; i++) {
                depths[i] = NONE;
                considered[i] = false;
                isTarget[i] = false;
            }
            reached = 0;
            targets = 0;
            depths[0] = 0;
            for (int k = 0; k < size; k++) {
                int i = nextToConsider();
                if (i == NONE) break;
                considered[i] = true;
                reached++;
                if (!passOn(i, causes)) return false;
            }
            if (targets > MOST_TARGETS) return flawed(TOO_MANY_TARGETS, targets, causes);
            return true;
        }

        private int nextToConsider() {
            for (int i = 0; i < size; i++) {
                if (isReached(i) && !considered[i]) return i;
            }
            return NONE;
        }

        private boolean passOn(int i, Causes causes) {
            int after = depths[i] - TAKES[kinds[i]] + COMES[kinds[i]];
            if (depths[i] < TAKES[kinds[i]] || after > MOST_CELLS) return flawed(WRONG_DEPTH, i, causes);
            if (falls(i) && !accepts(i + 1, after)) return flawed(TWO_DEPTHS, i + 1, causes);
            if (!leads(i)) return true;
            int target = numbers[i];
            if (!isTarget[target]) targets++;
            isTarget[target] = true;
            return accepts(target, after) || flawed(TWO_DEPTHS, target, causes);
        }

        private boolean accepts(int i, int depth) {
            if (!isReached(i)) depths[i] = depth;
            return depths[i] == depth;
        }

        private static boolean flawed(int flaw, int number, Causes causes) {
            causes.append(CAUSE_FLAW);
            causes.append(flaw);
            causes.append(CAUSE_NUMBER + number);
            return false;
        }

        void become(Program other) {
            for (int i = 0; i < MOST_INSTRUCTIONS; i++) {
                kinds[i] = other.kinds[i];
                numbers[i] = other.numbers[i];
                depths[i] = other.depths[i];
                isTarget[i] = other.isTarget[i];
            }
            size = other.size;
            reached = other.reached;
            targets = other.targets;
        }

        boolean isReached(int i) {
            return depths[i] != NONE;
        }

        /** Tells whether the next instruction can follow. */
        boolean falls(int i) {
            return kinds[i] != JUMP && kinds[i] != HALT && i + 1 < size;
        }

        /** Tells whether an instruction TT can follow. */
        boolean leads(int i) {
            return kinds[i] == JUMP || kinds[i] == BRANCH;
        }

        /** Tells whether only jumps and branches, or the beginning, lead to a reached instruction. */
        boolean isHead(int i) {
            return i == 0 || !isReached(i - 1) || !falls(i - 1);
        }

        /** Returns the first target from an instruction on; NONE if there is none. */
        int targetFrom(int first) {
            for (int i = first; i < size; i++) {
                if (isTarget[i]) return i;
            }
            return NONE;
        }
    }

    /** What changes change, and the latest former settings. */
    private static final class Settings {
        private static final int ROW = 4 + MOST_INSTRUCTIONS;

        int registers = 2;
        int move = 1;
        int load = 2;
        int store = 2;
        final int[] weights = new int[MOST_INSTRUCTIONS];
        int remembered = 0;
        // A ring: the row behind the latest one takes the place of the oldest one.
        private final int[] formerRows = new int[MOST_UNDONE * ROW];
        private int nextRow = 0;

        Settings() {
            Arrays.fill(weights, 1);
        }

        void resetWeights() {
            Arrays.fill(weights, 1);
        }

        void forgetChanges() {
            remembered = 0;
        }

        void remember() {
            int place = nextRow * ROW;
            formerRows[place] = registers;
            formerRows[place + 1] = move;
            formerRows[place + 2] = load;
            formerRows[place + 3] = store;
            System.arraycopy(weights, 0, formerRows, place + 4, MOST_INSTRUCTIONS);
            nextRow = nextRow + 1 < MOST_UNDONE ? nextRow + 1 : 0;
            remembered = Math.min(remembered + 1, MOST_UNDONE);
        }

        void recall() {
            nextRow = nextRow > 0 ? nextRow - 1 : MOST_UNDONE - 1;
            remembered--;
            int place = nextRow * ROW;
            registers = formerRows[place];
            move = formerRows[place + 1];
            load = formerRows[place + 2];
            store = formerRows[place + 3];
            System.arraycopy(formerRows, place + 4, weights, 0, MOST_INSTRUCTIONS);
        }
    }

    /**
     * The states, the transitions and the versions. The registers of a state are packed into a number:
     * two bits for each, the top cell's register in the lowest ones, with 1 added, so that 0 is no register.
     */
    private static final class Machine {
        private int registers = 0;
        private int move = 0;
        private int load = 0;
        private int store = 0;
        int size = 0;
        private final int[] packed = new int[MOST_STATES];
        private final int[] lengths = new int[MOST_STATES];
        private final int[] numberOf = new int[1 << (2 * MOST_REGISTERS)];
        final int[] passages = new int[MOST_STATES * MOST_STATES];

        void equip(Settings settings) {
            boolean sameStates = registers == settings.registers;
            boolean sameCosts = move == settings.move && load == settings.load && store == settings.store;
            if (sameStates && sameCosts) return;
            registers = settings.registers;
            move = settings.move;
            load = settings.load;
            store = settings.store;
            if (!sameStates) listStates();
            for (int s = 0; s < size; s++) {
                for (int t = 0; t < size; t++) passages[s * MOST_STATES + t] = cheapestPassage(s, t);
            }
        }

        private void listStates() {
            size = 0;
            int sequences = 1;
            for (int length = 0; length <= registers; length++) {
                for (int k = 0; k < sequences; k++) listState(length, k);
                sequences *= registers;
            }
        }

        // The digits of k to the base of the number of registers are the sequence, the last digit the deepest.
        private void listState(int length, int k) {
            int row = 0;
            int digits = k;
            for (int i = 0; i < length; i++) {
                int r = Math.floorMod(digits, Math.max(registers, 1));
                if (holds(row, r)) return;
                row = push(row, r);
                digits = Math.floorDiv(digits, Math.max(registers, 1));
            }
            if (size == MOST_STATES) return;
            packed[size] = row;
            lengths[size] = length;
            numberOf[row] = size;
            size++;
        }

        private static int push(int row, int r) {
            return row << 2 | r + 1;
        }

        private static boolean holds(int row, int r) {
            return (row & 3) == r + 1 || (row >> 2 & 3) == r + 1 || (row >> 4 & 3) == r + 1;
        }

        int lengthOf(int s) {
            return lengths[s];
        }

        int registerOf(int s, int i) {
            return (packed[s] >> 2 * i & 3) - 1;
        }

        int passageCost(int s, int t) {
            return passages[s * MOST_STATES + t];
        }

        // A cell that changes its register needs a move, or a store and a load. If the cells go round in a
        // circle, one of them must go by memory, or by a register that no cell keeps, which is one move more.
        private int cheapestPassage(int s, int t) {
            int kept = Math.min(lengths[s], lengths[t]);
            int unavoidable = store * (lengths[s] - kept) + load * (lengths[t] - kept);
            int changing = 0;
            for (int i = 0; i < kept; i++) {
                if (registerOf(s, i) != registerOf(t, i)) changing++;
            }
            int byMemory = store + load;
            int cheaper = Math.min(move, byMemory);
            if (!goesRound(s, t, kept)) return unavoidable + changing * cheaper;
            int broken = byMemory + (changing - 1) * cheaper;
            if (kept < registers) broken = Math.min(broken, (changing + 1) * move);
            return unavoidable + broken;
        }

        // Cells that change go round if they all go to registers that such cells leave: with at most three
        // registers there is only one circle, and no cell outside it changes.
        private boolean goesRound(int s, int t, int kept) {
            boolean round = false;
            for (int i = 0; i < kept; i++) {
                if (registerOf(s, i) == registerOf(t, i)) continue;
                round = true;
                if (!keeps(s, kept, registerOf(t, i))) return false;
            }
            return round;
        }

        private boolean keeps(int s, int kept, int r) {
            for (int i = 0; i < kept; i++) {
                if (registerOf(s, i) == r) return true;
            }
            return false;
        }

        boolean hasVersion(int kind, int s) {
            return s == 0 || worksInRegisters(kind, s);
        }

        private boolean worksInRegisters(int kind, int s) {
            return lengths[s] >= TAKES[kind] && lengths[s] - TAKES[kind] + COMES[kind] <= registers;
        }

        boolean isPlain(int kind, int s) {
            return s == 0 && kind != REMOVE && !worksInRegisters(kind, s);
        }

        int versionCost(int kind, int s) {
            if (isPlain(kind, s)) return TAKES[kind] * load + COMES[kind] * store;
            boolean copies = kind == DUPLICATE || kind == OVER;
            return copies ? move : 0;
        }

        /** Returns the state that a version leaves. */
        int stateAfter(int kind, int s) {
            if (!worksInRegisters(kind, s)) return 0;
            int row = packed[s];
            switch (kind) {
                case EXCHANGE: return numberOf[push(push(row >> 4, registerOf(s, 0)), registerOf(s, 1))];
                case ROTATE: return numberOf[push(row & 15, registerOf(s, 2))];
                case DUPLICATE:
                case OVER: return numberOf[push(row, smallestFree(row))];
                default: break;
            }
            int rest = row >> 2 * TAKES[kind];
            return COMES[kind] == 0 ? numberOf[rest] : numberOf[push(rest, smallestFree(rest))];
        }

        private static int smallestFree(int row) {
            for (int r = 0; r < MOST_REGISTERS - 1; r++) {
                if (!holds(row, r)) return r;
            }
            return MOST_REGISTERS - 1;
        }
    }

    /**
     * The best choice. When the states of the targets are pinned, the other instructions form chains, in
     * which each one follows the one before it; so all states of the targets are tried.
     */
    private static final class Chooser {
        private static final int TABLE = MOST_INSTRUCTIONS * MOST_STATES;
        private static final int FAR = 1000000000;

        private final Program program;
        private final Machine machine;
        private final int[] passages;
        private final int[] weights;
        // By instruction: the list of its legal states, ascending, and of the states that its versions leave.
        private final int[] legal = new int[TABLE];
        private final int[] legals = new int[MOST_INSTRUCTIONS];
        private final int[] exits = new int[TABLE];
        private final int[] exitCounts = new int[MOST_INSTRUCTIONS];
        // By instruction and state: the state that the version leaves, and its weighted cost; then the smallest
        // cost of the instruction and those behind it in its chain, of those before it, and of all.
        private final int[] after = new int[TABLE];
        private final int[] price = new int[TABLE];
        private final int[] onward = new int[TABLE];
        private final int[] backward = new int[TABLE];
        private final int[] least = new int[TABLE];
        private final int[] pinned = new int[MOST_INSTRUCTIONS];
        private final int[] byExit = new int[MOST_STATES];
        final int[] chosen = new int[MOST_INSTRUCTIONS];
        int cost = 0;
        private boolean hasChoice = false;
        private boolean hasLeast = false;

        Chooser(Program program, Machine machine, Settings settings) {
            this.program = program;
            this.machine = machine;
            this.passages = machine.passages;
            this.weights = settings.weights;
        }

        void forget() {
            hasChoice = false;
            hasLeast = false;
        }

        void choose() {
            if (hasChoice) return;
            prepare();
            tryAllPins(false);
            hasChoice = true;
        }

        void findLeast() {
            if (hasLeast) return;
            prepare();
            Arrays.fill(least, FAR);
            tryAllPins(true);
            hasChoice = true;
            hasLeast = true;
        }

        int leastWith(int i, int s) {
            int found = least[i * MOST_STATES + s];
            return found == FAR ? NONE : found;
        }

        private void prepare() {
            Arrays.fill(pinned, NONE);
            for (int i = 0; i < program.size; i++) listLegal(i);
            pinned[0] = 0;
        }

        private void listLegal(int i) {
            legals[i] = 0;
            exitCounts[i] = 0;
            if (!program.isReached(i)) return;
            int kind = program.kinds[i];
            int states = i == 0 ? 1 : machine.size;
            for (int s = 0; s < states; s++) {
                if (machine.lengthOf(s) > program.depths[i] || !machine.hasVersion(kind, s)) continue;
                int place = i * MOST_STATES + s;
                legal[i * MOST_STATES + legals[i]++] = s;
                after[place] = machine.stateAfter(kind, s);
                price[place] = weights[i] * machine.versionCost(kind, s);
                listExit(i, after[place]);
            }
        }

        private void listExit(int i, int exit) {
            int first = i * MOST_STATES;
            for (int k = 0; k < exitCounts[i]; k++) {
                if (exits[first + k] == exit) return;
            }
            exits[first + exitCounts[i]++] = exit;
        }

        private void tryAllPins(boolean wantsLeast) {
            int small = program.targetFrom(0);
            int great = small == NONE ? NONE : program.targetFrom(small + 1);
            int smallBest = NONE;
            int greatBest = NONE;
            cost = FAR;
            for (int a = 0; a < pinCount(small); a++) {
                for (int b = 0; b < pinCount(great); b++) {
                    pin(small, a);
                    pin(great, b);
                    walkBack();
                    int total = total();
                    if (wantsLeast) walkForth(total);
                    if (total >= cost) continue;
                    cost = total;
                    smallBest = a;
                    greatBest = b;
                }
            }
            pin(small, smallBest);
            pin(great, greatBest);
            walkBack();
            pick();
        }

        private int pinCount(int target) {
            return target == NONE ? 1 : legals[target];
        }

        private void pin(int target, int k) {
            if (target != NONE && k != NONE) pinned[target] = legal[target * MOST_STATES + k];
        }

        private void walkBack() {
            for (int i = program.size - 1; i >= 0; i--) {
                if (!program.isReached(i)) continue;
                int first = i * MOST_STATES;
                if (pinned[i] != NONE) {
                    int place = first + pinned[i];
                    onward[place] = price[place] + leaving(i, after[place]);
                    continue;
                }
                for (int k = 0; k < exitCounts[i]; k++) {
                    byExit[exits[first + k]] = leaving(i, exits[first + k]);
                }
                for (int k = 0; k < legals[i]; k++) {
                    int place = first + legal[first + k];
                    onward[place] = price[place] + byExit[after[place]];
                }
            }
        }

        private int leaving(int i, int exit) {
            return program.falls(i) ? leading(i, exit) + falling(i, exit) : leading(i, exit);
        }

        private int leading(int i, int exit) {
            if (!program.leads(i)) return 0;
            return weights[i] * passages[exit * MOST_STATES + pinned[program.numbers[i]]];
        }

        // The loops here and in cheapestEntry are by far those that run most often, so they call nothing.
        private int falling(int i, int exit) {
            if (pinned[i + 1] != NONE) return fallingTo(i, exit, pinned[i + 1]);
            int weight = weights[i];
            int from = exit * MOST_STATES;
            int first = (i + 1) * MOST_STATES;
            int end = first + legals[i + 1];
            int smallest = FAR;
            for (int k = first; k < end; k++) {
                int t = legal[k];
                int paid = weight * passages[from + t] + onward[first + t];
                if (paid < smallest) smallest = paid;
            }
            return smallest;
        }

        private int fallingTo(int i, int exit, int t) {
            return weights[i] * passages[exit * MOST_STATES + t] + onward[(i + 1) * MOST_STATES + t];
        }

        private int total() {
            int sum = 0;
            for (int i = 0; i < program.size; i++) {
                if (program.isReached(i) && program.isHead(i)) sum += onward[i * MOST_STATES + pinned[i]];
            }
            return sum;
        }

        private void walkForth(int total) {
            int otherChains = 0;
            for (int i = 0; i < program.size; i++) {
                if (!program.isReached(i)) continue;
                if (program.isHead(i)) {
                    int place = i * MOST_STATES + pinned[i];
                    backward[place] = 0;
                    otherChains = total - onward[place];
                }
                noteLeast(i, otherChains);
                if (program.falls(i)) carryForth(i);
            }
        }

        private void noteLeast(int i, int otherChains) {
            for (int k = 0; k < legals[i]; k++) {
                int s = legal[i * MOST_STATES + k];
                if (pinned[i] != NONE && pinned[i] != s) continue;
                int place = i * MOST_STATES + s;
                least[place] = Math.min(least[place], otherChains + backward[place] + onward[place]);
            }
        }

        private void carryForth(int i) {
            int first = i * MOST_STATES;
            Arrays.fill(byExit, FAR);
            for (int k = 0; k < legals[i]; k++) {
                int s = legal[first + k];
                if (pinned[i] != NONE && pinned[i] != s) continue;
                int exit = after[first + s];
                int paid = backward[first + s] + price[first + s] + leading(i, exit);
                byExit[exit] = Math.min(byExit[exit], paid);
            }
            int next = first + MOST_STATES;
            for (int k = 0; k < legals[i + 1]; k++) {
                int t = legal[next + k];
                if (pinned[i + 1] == NONE || pinned[i + 1] == t) backward[next + t] = cheapestEntry(i, t);
            }
        }

        private int cheapestEntry(int i, int t) {
            int weight = weights[i];
            int first = i * MOST_STATES;
            int end = first + exitCounts[i];
            int smallest = FAR;
            for (int k = first; k < end; k++) {
                int exit = exits[k];
                int paid = byExit[exit] + weight * passages[exit * MOST_STATES + t];
                if (paid < smallest) smallest = paid;
            }
            return smallest;
        }

        // The smallest state of several that are equally cheap comes first in the list of the legal ones.
        private void pick() {
            for (int i = 0; i < program.size; i++) {
                chosen[i] = 0;
                if (!program.isReached(i)) continue;
                if (pinned[i] != NONE) {
                    chosen[i] = pinned[i];
                    continue;
                }
                int exit = after[(i - 1) * MOST_STATES + chosen[i - 1]];
                int smallest = FAR;
                for (int k = 0; k < legals[i]; k++) {
                    int s = legal[i * MOST_STATES + k];
                    int paid = fallingTo(i - 1, exit, s);
                    if (paid >= smallest) continue;
                    smallest = paid;
                    chosen[i] = s;
                }
            }
        }
    }

    /** A run of the program with the best choice. */
    private static final class Run {
        private final Program program;
        private final Machine machine;
        private final int[] chosen;
        private final int[] cells = new int[MOST_CELLS];
        final int[] variables = new int[VARIABLES];
        final int[] outputs = new int[MOST_OUTPUTS];
        final int[] executed = new int[MOST_INSTRUCTIONS];
        boolean exists = false;
        boolean ended = false;
        int at = 0;
        int present = 0;
        int height = 0;
        int written = 0;
        int paid = 0;
        int steps = 0;

        Run(Program program, Machine machine, Chooser chooser) {
            this.program = program;
            this.machine = machine;
            this.chosen = chooser.chosen;
        }

        void begin() {
            Arrays.fill(variables, 0);
            Arrays.fill(executed, 0);
            exists = true;
            ended = false;
            at = 0;
            present = chosen[0];
            height = 0;
            written = 0;
            paid = 0;
            steps = 0;
        }

        /** Executes a step, unless the run ends before it. */
        void advance() {
            int i = at;
            int kind = program.kinds[i];
            if (kind == OUTPUT && written == MOST_OUTPUTS) {
                ended = true;
                return;
            }
            int next = execute(i, kind);
            executed[i]++;
            steps++;
            paid += machine.versionCost(kind, present);
            int exit = machine.stateAfter(kind, present);
            ended = next == NONE;
            if (ended) {
                present = exit;
                return;
            }
            at = next;
            present = chosen[next];
            paid += machine.passageCost(exit, present);
        }

        // Returns the next instruction; NONE if there is none.
        private int execute(int i, int kind) {
            int number = program.numbers[i];
            int next = program.falls(i) ? i + 1 : NONE;
            switch (kind) {
                case JUMP: return number;
                case BRANCH: return pop() == 0 ? number : next;
                case NUMBER: push(number); break;
                case GET: push(variables[number]); break;
                case SET: variables[number] = pop(); break;
                case OUTPUT: outputs[written++] = pop(); break;
                case HALT: break;
                case PLUS:
                case MINUS:
                case TIMES: calculate(kind); break;
                default: rearrange(kind); break;
            }
            return next;
        }

        private void calculate(int kind) {
            int top = pop();
            int lower = pop();
            if (kind == PLUS) push(lower + top);
            else if (kind == MINUS) push(lower - top);
            else push(lower * top);
        }

        private void rearrange(int kind) {
            int top = pop();
            if (kind == REMOVE) return;
            if (kind == DUPLICATE) {
                push(top);
                push(top);
                return;
            }
            int second = pop();
            if (kind == ROTATE) {
                int third = pop();
                push(second);
                push(top);
                push(third);
                return;
            }
            if (kind == OVER) push(second);
            push(top);
            push(second);
        }

        private void push(int value) {
            if (height < cells.length) cells[height++] = value;
        }

        private int pop() {
            return height > 0 ? cells[--height] : 0;
        }

        /** Returns a cell by its index from the top. */
        int cellAt(int i) {
            return i >= 0 && i < height ? cells[height - 1 - i] : 0;
        }

        int weightOf(int i) {
            return Math.min(executed[i] + 1, MOST_WEIGHT);
        }
    }
}
