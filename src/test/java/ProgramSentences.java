/** The sentences of PROGRAMS, DEPTHS AND FLAWS, and of promises 1 to 7. */
final class ProgramSentences {
    private static final int BAD = StackStates.BAD;
    private static final int NO = StackStates.NO;
    private static final int FULL = StackStates.FULL;
    private static final int NONE = StackStates.NONE;
    private static final int LOW = Integer.MIN_VALUE;
    private static final int HIGH = Integer.MAX_VALUE;

    private static final String DEPTHS = "DEPTHS AND FLAWS";
    // Texts of 9 instructions, whose runs leave 2^30 and 10^9 on the stack.
    static final String TWO_30 = "n32d*d*n32*n32*";
    static final String TEN_9 = "n10d*d*d*n10*";
    // Integer.MIN_VALUE and Integer.MAX_VALUE, modulo ZERO.
    static final int SMALLEST = 852516352;
    static final int GREATEST = 147483647;

    private final Sentences t;

    ProgramSentences(Sentences t) {
        this.t = t;
    }

    void all() {
        programs();
        takenAndComing();
        numbers();
        arithmetic();
        rearranging();
        variables();
        jumps();
        branches();
        outputAndHalt();
        flow();
        longTexts();
        forms();
        placesOfFaults();
        missingTargets();
        emptyText();
        firstProgram();
        depths();
        smallestFirst();
        wrongDepths();
        otherDepths();
        reached();
        targets();
        manyTargets();
        canBeLaid();
        causes();
        newObject();
        writing();
        wiping();
        faults();
        laying();
        causeNumbers();
        codes();
    }

    private static String ones(int n) {
        return "n01".repeat(n);
    }

    // ---- PROGRAMS

    private void programs() {
        t.of("PROGRAMS", "A program has 1 to 24 instructions, numbered from 0.");
        t.lays("h", 1);
        t.lays("h".repeat(23), 23);
        t.lays("h".repeat(24), 24);
        t.fault("h".repeat(25), 24, 13);
        t.due("no instruction", new StackStates().lay(), NO);
        StackStates x = Check.laid("n07" + "h".repeat(23));
        t.due("the first one", x.code(0, 0), 'n');
        t.due("the last one", x.code(23, 0), 'h');
        t.due("behind it", x.code(24, 0), BAD);
        t.due("before the first one", x.code(-1, 0), BAD);

        t.of("PROGRAMS", "The stack holds ints; there are four variables, 0 to 3.");
        StackStates four = Sentences.after("n01s0n02s1n03s2n04s3", 8);
        for (int k = 0; k < 4; k++) t.due("variable(" + k + ")", four.variable(k), k + 1);
        t.due("variable(-1)", four.variable(-1), BAD);
        t.due("variable(4)", four.variable(4), BAD);
        t.due("the smallest int", Sentences.result(TWO_30 + "d+"), SMALLEST);
        t.due("the greatest int", Sentences.result(TWO_30 + "d+n01-"), GREATEST);
    }

    // With exactly so many cells the instruction can be laid, with one less it has the flaw 22; with most
    // cells before it, too, and with one more it has the flaw (if there can be one more).
    private void takes(String instruction, int cells, int most) {
        for (int n : new int[] {cells, most}) t.lays(ones(n) + at(instruction, n), n + 1 + rest(instruction));
        if (cells > 0) t.flaw(ones(cells - 1) + at(instruction, cells - 1), 22, cells - 1);
        if (most < 12) t.flaw(ones(most + 1) + at(instruction, most + 1), 22, most + 1);
    }

    // @ stands for the instruction's own number, # for that of the next one.
    private static String at(String instruction, int i) {
        return instruction.replace("@", Programs.two(i)).replace("#", Programs.two(i + 1));
    }

    private static int rest(String instruction) {
        return instruction.endsWith("h") && instruction.length() > 1 ? 1 : 0;
    }

    private void takenAndComing() {
        t.of("PROGRAMS", "The instructions, with the number of cells that each takes from the top of the stack and the"
                + " number of cells that come in their place:");
        String[] texts = {"n01", "+", "-", "*", "d", "x", "p", "o", "r", "g0", "s0", "j04", "b04", "w"};
        int[] more = {1, -1, -1, -1, 1, 0, -1, 1, 0, 1, -1, 0, -1, -1};
        for (int k = 0; k < texts.length; k++) {
            StackStates x = Sentences.after("n01n02n03" + texts[k] + "h", 4);
            t.due("depth behind " + texts[k], x.code(4, 2), 3 + more[k]);
            t.due("cells behind " + texts[k], x.now(2), 3 + more[k]);
        }
    }

    private void numbers() {
        t.of("PROGRAMS", "n NN (takes 0, comes 1): the number NN comes.");
        takes("n01", 0, 11);
        t.due("n00", Sentences.result("n00"), 0);
        t.due("n09", Sentences.result("n09"), 9);
        t.due("n10", Sentences.result("n10"), 10);
        t.due("n99", Sentences.result("n99"), 99);
    }

    private void arithmetic() {
        t.of("PROGRAMS", "+ - * (2, 1): the sum, the difference (lower cell minus top cell) or the product"
                + " (int arithmetic with overflow).");
        for (String sign : new String[] {"+", "-", "*"}) takes(sign, 2, 12);
        t.due("sum", Sentences.result("n07n02+"), 9);
        t.due("difference", Sentences.result("n07n02-"), 5);
        t.due("difference below 0", Sentences.result("n02n07-"), 999999995);
        t.due("product", Sentences.result("n07n02*"), 14);
        t.due("the cell below stays", Sentences.result("n09n07n02*p"), 9);
        t.due("2^30 + 2^30", Sentences.result(TWO_30 + "d+"), SMALLEST);
        t.due("-2^31 - 1", Sentences.result(TWO_30 + "d+n01-"), GREATEST);
        t.due("2^31 - 1 + 1", Sentences.result(TWO_30 + "d+n01-n01+"), SMALLEST);
        t.due("-2^31 + -2^31", Sentences.result(TWO_30 + "d+d+"), 0);
        t.due("0 - -2^31", Sentences.result("n00" + TWO_30 + "d+-"), SMALLEST);
        t.due("2^30 * 2", Sentences.result(TWO_30 + "n02*"), SMALLEST);
        t.due("2^30 * 4", Sentences.result(TWO_30 + "n04*"), 0);
        t.due("-2^31 * -1", Sentences.result(TWO_30 + "d+n00n01-*"), SMALLEST);
        t.due("10^9 * 3", Sentences.result(TEN_9 + "n03*"), Math.floorMod((int) 3000000000L, 1000000000));
    }

    private void rearranging() {
        t.of("PROGRAMS", "d (1, 2): the top cell is duplicated.");
        takes("d", 1, 11);
        t.due("d", Sentences.result("n07d"), 7);
        t.due("both", Sentences.result("n07d+"), 14);

        t.of("PROGRAMS", "x (2, 2): the two top cells are exchanged.");
        takes("x", 2, 12);
        t.due("x", Sentences.result("n01n02n03x"), 2);
        t.due("the other", Sentences.result("n01n02n03xp"), 3);
        t.due("the third stays", Sentences.result("n01n02n03xpp"), 1);

        t.of("PROGRAMS", "p (1, 0): the top cell is removed.");
        takes("p", 1, 12);
        t.due("p", Sentences.result("n01n02p"), 1);
        t.due("the only one", Sentences.result("n01p"), NONE);

        t.of("PROGRAMS", "o (2, 3): a copy of the second cell comes on top.");
        takes("o", 2, 11);
        t.due("o", Sentences.result("n01n02o"), 1);
        t.due("under it", Sentences.result("n01n02op"), 2);
        t.due("below", Sentences.result("n01n02opp"), 1);

        t.of("PROGRAMS", "r (3, 3): the third cell becomes the top one.");
        takes("r", 3, 12);
        t.due("r", Sentences.result("n01n02n03n04r"), 2);
        t.due("under it", Sentences.result("n01n02n03n04rp"), 4);
        t.due("below", Sentences.result("n01n02n03n04rpp"), 3);
        t.due("the fourth stays", Sentences.result("n01n02n03n04rppp"), 1);
    }

    private void variables() {
        t.of("PROGRAMS", "g K (0, 1): the value of variable K comes.");
        takes("g0", 0, 11);
        for (int k = 0; k < 4; k++) {
            t.due("g" + k, Sentences.result("n05s0n06s1n07s2n08s3g" + k), 5 + k);
            t.due("g" + k + " before", Sentences.result("g" + k), 0);
        }

        t.of("PROGRAMS", "s K (1, 0): variable K gets the value of the top cell.");
        takes("s3", 1, 12);
        for (int k = 0; k < 4; k++) {
            StackStates x = Sentences.after("n05n06s" + k, 3);
            for (int i = 0; i < 4; i++) t.due("s" + k + ", variable(" + i + ")", x.variable(i), i == k ? 6 : 0);
            t.due("the cell is taken", x.cell(0), 5);
        }
    }

    private void jumps() {
        t.of("PROGRAMS", "j TT (0, 0): jump to instruction TT.");
        takes("j@", 0, 12);
        t.due("to itself", Sentences.after("j00", 1).now(0), 0);
        t.due("to the first", Sentences.after("g0pj00", 3).now(0), 0);
        t.due("to the last", Sentences.after("j23" + "h".repeat(23), 1).now(0), 23);
        t.due("to the next", Sentences.after("j01h", 1).now(0), 1);
    }

    private void branches() {
        t.of("PROGRAMS", "b TT (1, 0): branch to instruction TT if the cell that it takes is 0.");
        takes("b#h", 1, 12);
        String goesOn = "b12n05hn06";
        t.due("0", Sentences.result("n00b04n05hn06"), 6);
        t.due("1", Sentences.result("n01b04n05hn06"), 5);
        t.due("-1", Sentences.result("n00n01-b06n05hn06"), 5);
        t.due("10^9, which is shown as 0", Sentences.result(TEN_9 + goesOn), 5);
        t.due("2^32, which is 0", Sentences.result(TWO_30 + "n04*b14n05hn06"), 6);
        t.due("-2^31", Sentences.result(TWO_30 + "d+b14n05hn06"), 5);
    }

    private void outputAndHalt() {
        t.of("PROGRAMS", "w (1, 0): the cell is output.");
        takes("w", 1, 12);
        StackStates w = Sentences.after("n05n06w", 3);
        t.due("out(0)", w.out(0), 6);
        t.due("out(1)", w.out(1), NONE);
        t.due("the cell is taken", w.cell(0), 5);

        t.of("PROGRAMS", "h (0, 0): halt.");
        takes("h", 0, 12);
        StackStates h = Sentences.after("n05hn06", 500);
        t.due("steps", h.now(4), 2);
        t.due("ended", h.now(0), NONE);
        t.due("cell(0)", h.cell(0), 5);
    }

    private void goes(String text, int... way) {
        StackStates x = Check.laid(text);
        x.start();
        for (int i : way) {
            t.due(text + " goes to", x.now(0), i);
            if (i >= 0) x.step(1);
        }
    }

    private void flow() {
        t.of("PROGRAMS", "After an instruction the next one is executed; after a jump instruction TT; after a branch"
                + " instruction TT or the next one; after halt none.");
        goes("n01n02+h", 0, 1, 2, 3, NONE);
        goes("j03hhj01", 0, 3, 1, NONE);
        goes("n00b03hj05hn01b05h", 0, 1, 3, 5, 6, 7, NONE);
        goes("g0b02g0b00", 0, 1, 2, 3, 0, 1);
        goes("hh", 0, NONE);

        t.of("PROGRAMS", "After the last instruction there is no next one.");
        for (String last : new String[] {"n01", "+", "-", "*", "d", "x", "p", "o", "r", "g0", "s0", "w", "h", "b00"}) {
            String text = last.equals("b00") ? "n01b00" : "n01n02n03" + last;
            int size = last.equals("b00") ? 2 : 4;
            StackStates x = Check.laid(text);
            x.start();
            t.due("steps of " + text, x.step(500), size);
            t.due("the end of " + text, x.now(0), NONE);
            t.due("behind the end of " + text, x.step(1), NO);
        }
        t.due("a jump goes on", Sentences.after("j00", 500).now(4), 500);
        t.due("a branch that is taken goes on", Sentences.after("g0b00", 500).now(4), 500);
    }

    private void longTexts() {
        t.of("PROGRAMS", "A program is written as a text of at most 200 characters, which is empty at first,"
                + " without any separators");
        StackStates x = new StackStates();
        t.due("empty at first", x.count(8), 0);
        for (int k = 1; k <= 200; k++) t.due("write", x.write('n'), k);
        t.due("a 201st", x.write('n'), FULL);
        t.fault("h h", 1, 10);
        t.fault(" h", 0, 10);
        t.fault("n01,h", 3, 10);
        t.fault("h;", 1, 10);
    }

    private void forms() {
        t.of("PROGRAMS", "an instruction is one of the characters above, followed by two digits for n, j and b, by one"
                + " digit, 0 to 3, for g and s, and by nothing for the others.");
        for (char c = 32; c <= 126; c++) {
            if ("+-*dxporwh".indexOf(c) >= 0) t.noFault("" + c);
            else t.fault("" + c, 0, "njbgs".indexOf(c) >= 0 ? 11 : 10);
            boolean digit = c >= '0' && c <= '9';
            for (String text : new String[] {"n" + c + "5", "n5" + c, "n" + c + c}) {
                if (digit) t.noFault(text);
                else t.fault(text, 0, 11);
            }
            for (String text : new String[] {"j" + c + "9", "j9" + c, "b" + c + "9", "b9" + c}) {
                t.fault(text, 0, digit ? 14 : 11);
            }
            for (String text : new String[] {"g" + c, "s" + c}) {
                if (c >= '0' && c <= '3') t.noFault(text);
                else t.fault(text, 0, digit ? 12 : 11);
            }
        }
        for (char c : "+-*dxporwh".toCharArray()) t.fault("" + c + '0', 1, 10);
        t.fault("n011", 3, 10);
        t.fault("g00", 2, 10);
        t.fault("hj001", 4, 10);
        t.noFault("j00");
        t.noFault("b00");
    }

    private void placesOfFaults() {
        t.of("PROGRAMS", "The fault of a text is the index of the first character of the first instruction that is not"
                + " of this form, or that is a 25th instruction");
        t.fault("hn01g0j00q", 9, 10);
        t.fault("hn01g0j0", 6, 11);
        t.fault("g7q", 0, 12);
        t.fault("hqn", 1, 10);
        t.fault("h".repeat(23) + "q", 23, 10);
        t.fault("h".repeat(23) + "qh", 23, 10);
        t.fault("h".repeat(24) + "h", 24, 13);
        t.fault("n00".repeat(24) + "n00", 72, 13);
        t.fault("g0".repeat(24) + "n", 48, 13);
        t.fault("n".repeat(200), 0, 11);
        t.fault("h".repeat(200), 24, 13);
        t.fault("n00".repeat(66) + "n0", 72, 13);
    }

    private void missingTargets() {
        t.of("PROGRAMS", "if there is none, but there are jumps or branches to an instruction that does not exist, it is"
                + " the index of the first character of the first such one.");
        for (int size = 1; size <= 24; size++) {
            for (String sign : new String[] {"j", "b"}) {
                t.noFault(sign + Programs.two(size - 1) + "h".repeat(size - 1));
                t.fault(sign + Programs.two(size) + "h".repeat(size - 1), 0, 14);
                t.fault("h".repeat(size - 1) + sign + Programs.two(size), size - 1, 14);
                t.fault("h".repeat(size - 1) + sign + "99", size - 1, 14);
            }
        }
        t.fault("hj00b03j04", 7, 14);
        t.fault("hj07b08j09", 1, 14);
        t.fault("j09hg9", 4, 12);
        t.fault("j09hj", 4, 11);
        t.fault("j09h?", 4, 10);
        t.fault("j24" + "h".repeat(24), 26, 13);
    }

    private void emptyText() {
        t.of("PROGRAMS", "The empty text has no fault, but is no program.");
        StackStates empty = new StackStates();
        t.due("fault()", empty.fault(), NONE);
        t.due("causes of it", empty.count(9), 0);
        t.due("lay()", empty.lay(), NO);
        t.due("the program stays", empty.count(0), 16);
        Check.rewrite(empty, "q");
        empty.wipe();
        t.due("fault() of a wiped text", empty.fault(), NONE);
        t.due("lay() of a wiped text", empty.lay(), NO);
    }

    private void firstProgram() {
        t.of("PROGRAMS", "At first the program is that of n05s0g0b15g0n03*dwpg0n01-s0j02h, and the text is empty.");
        StackStates first = new StackStates();
        StackStates same = Check.laid("n05s0g0b15g0n03*dwpg0n01-s0j02h");
        t.due("instructions", first.count(0), 16);
        for (int i = 0; i <= 16; i++) {
            for (int what = 0; what < 5; what++) {
                t.due("code(" + i + ", " + what + ")", first.code(i, what), same.code(i, what));
            }
        }
        t.due("the text", first.count(8), 0);
        t.due("wipe()", first.wipe(), 0);
    }

    // ---- DEPTHS AND FLAWS

    private void depths() {
        t.of(DEPTHS, "The depth of an instruction is the number of cells on the stack before it. It is found as follows.");
        StackStates x = new StackStates();
        x.start();
        for (int k = 0; k < 70; k++) {
            t.due("depth after " + k, x.code(x.now(0), 2), x.now(2));
            x.step(1);
        }
        StackStates most = Check.laid(ones(12) + "w".repeat(12));
        for (int i = 0; i < 24; i++) t.due("depth of " + i, most.code(i, 2), i <= 12 ? i : 24 - i);

        t.of(DEPTHS, "The depth of instruction 0 is 0.");
        t.due("n01", Check.laid("n01").code(0, 2), 0);
        t.due("a target", Check.laid("j00").code(0, 2), 0);
        t.flaw("p", 22, 0);
        t.flaw("n01j00", 21, 0);
    }

    private void smallestFirst() {
        t.of(DEPTHS, "Again and again the smallest instruction whose depth is known and that was not considered yet is"
                + " considered.");
        // 1 and 4 are both flawed; 4 is known first, but 1 is smaller.
        t.flaw("j02pg0b01p", 22, 1);
        // 3 and 5 are both flawed; 5 is known first, by the branch.
        t.flaw("g0b05j03pg0p", 22, 3);
        // The way back to 1 is considered before the rest behind it.
        t.flaw("j03n01j00g0b01p", 21, 0);
    }

    private void wrongDepths() {
        t.of(DEPTHS, "If its depth is less than the number of cells that it takes, or its depth minus what it takes plus"
                + " what comes is more than 12, it has the flaw 22.");
        String[] takers = {"+", "-", "*", "d", "x", "p", "o", "r", "s0", "b00", "w"};
        int[] taken = {2, 2, 2, 1, 2, 1, 2, 3, 1, 1, 1};
        for (int k = 0; k < takers.length; k++) {
            for (int cells = 0; cells < taken[k]; cells++) t.flaw(ones(cells) + takers[k], 22, cells);
        }
        for (String maker : new String[] {"n01", "g0", "d", "o"}) {
            t.lays(ones(11) + maker, 12);
            t.flaw(ones(12) + maker, 22, 12);
            t.lays(ones(11) + maker + "wh", 14);
        }
        t.lays(ones(12) + "xr+-*ps0dw", 21);
        t.lays(ones(12) + "b13h", 14);
        t.lays(ones(12) + "j13h", 14);
    }

    private void otherDepths() {
        t.of(DEPTHS, "Otherwise this number is the depth of the instructions that can follow, first of the next one, then"
                + " of TT; if one of them has another depth already, that one has the flaw 21.");
        StackStates both = Check.laid("n01n02b04hh");
        t.due("the next one", both.code(3, 2), 1);
        t.due("TT", both.code(4, 2), 1);
        t.flaw("n01n01b00", 21, 0);
        t.flaw("n01n01b00h", 21, 0);
        // 5 is known by the first branch, and 0: both have another depth; the next one, 5, comes first.
        t.flaw("g0b05n01n01b00h", 21, 5);
        // The same depth again is no flaw, even of the same instruction.
        t.lays("g0b02g0b02h", 5);
        t.lays("n01n02b03h", 4);
        // A flaw 22 of the instruction itself comes before one of those that follow.
        t.flaw("j01b00", 22, 1);
        // A jump has no next one: 1 is not reached.
        t.lays("j02+h", 3);

        t.of(DEPTHS, "The search ends with the first flaw.");
        t.flaw("p+", 22, 0);
        t.flaw("g0b03pp", 22, 2);
        t.flaw("n01g0b00+", 21, 0);
        t.flaw("n01j00ppp", 21, 0);
        t.flaw(ones(12) + "dpr", 22, 12);
    }

    private void reached() {
        t.of(DEPTHS, "The instructions whose depth is found are reached.");
        StackStates some = Check.laid("j03h+n01b06hh");
        int[] depth = {0, NONE, NONE, 0, 1, 0, 0};
        for (int i = 0; i < 7; i++) t.due("depth of " + i, some.code(i, 2), depth[i]);
        t.due("reached", some.count(5), 5);
        t.due("only the first", Check.laid("h".repeat(24)).count(5), 1);
        t.due("all", Check.laid("g0p".repeat(12)).count(5), 24);
    }

    private void targets() {
        t.of(DEPTHS, "Targets are the instructions to which a reached jump or branch leads by TT.");
        StackStates x = Check.laid("j02j01g0b05hh");
        int[] due = {0, 0, 1, 0, 0, 1};
        for (int i = 0; i < 6; i++) t.due("target " + i, x.code(i, 3), due[i]);
        t.due("targets", x.count(6), 2);
        t.due("no target", Check.laid("hj00j01j02").count(6), 0);
        t.due("to itself", Check.laid("j00").code(0, 3), 1);
        t.due("the next one by TT", Check.laid("g0b02h").code(2, 3), 1);
        t.due("the next one of a branch", Check.laid("g0b00h").code(2, 3), 0);
    }

    private void manyTargets() {
        t.of(DEPTHS, "If there is no other flaw, and there are more than 2 targets, this is the flaw 23.");
        t.lays("h", 1);
        t.lays("j00", 1);
        t.lays("j01j00", 2);
        t.flaw("j01j02j00", 23, 3);
        StringBuilder round = new StringBuilder();
        for (int i = 1; i < 24; i++) round.append("j").append(Programs.two(i));
        t.flaw(round + "j00", 23, 24);
        t.flaw(round + "h", 23, 23);
        // Many ways to two targets are two targets.
        t.lays("g0b00".repeat(6) + "g0b02".repeat(6), 24);
        t.flaw("g0b00".repeat(5) + "g0b02".repeat(6) + "g0b22", 23, 3);
        // Three targets and another flaw: the other one counts.
        t.flaw("g0b00g0b02g0b04p", 22, 6);
        t.flaw("g0b00g0b02g0b04n01j00", 21, 0);
    }

    private void canBeLaid() {
        t.of(DEPTHS, "The program of a text without a fault, with at least one instruction and without a flaw can be"
                + " laid.");
        t.lays("n01", 1);
        t.due("no instruction", new StackStates().lay(), NO);
        t.fault("q", 0, 10);
        t.flaw("+", 22, 0);
    }

    private void list(StackStates x, String when, int... due) {
        t.due("number of causes " + when, x.count(9), due.length);
        for (int i = 0; i < due.length; i++) t.due("cause " + i + " " + when, x.cause(i), due[i]);
        t.due("behind the causes " + when, x.cause(due.length), NONE);
    }

    private void causes() {
        t.of(DEPTHS, "The latest call of fault() or lay() has causes, a list of numbers, the outermost first; it is empty"
                + " if there is no fault, or the program was laid");
        StackStates x = new StackStates();
        list(x, "at first");
        Check.rewrite(x, "p");
        x.lay();
        list(x, "of a flaw", 3, 22, 30);
        x.fault();
        list(x, "of fault() without a fault");
        x.lay();
        Check.rewrite(x, "q");
        list(x, "that other calls leave", 3, 22, 30);
        x.fault();
        list(x, "of a fault", 1, 10);
        x.wipe();
        x.lay();
        list(x, "of an empty text", 2);
        x.fault();
        list(x, "of fault() of an empty text");
        x.lay();
        Check.rewrite(x, "h");
        x.lay();
        list(x, "of a program that was laid");

        t.of(DEPTHS, "for a fault 1, and then the reason: 13 it is a 25th instruction (this is checked first); 10 no"
                + " instruction begins with this character; 11 a digit is missing; 12 the number of the variable is"
                + " greater than 3; 14 TT does not exist;");
        for (String last : new String[] {"h", "?", "n", "n0", "g", "g4", "j99", "1"}) {
            t.fault("h".repeat(24) + last, 24, 13);
        }
        t.fault("h".repeat(23) + "?", 23, 10);
        t.fault("h".repeat(23) + "n", 23, 11);
        t.fault("h".repeat(23) + "n0", 23, 11);
        t.fault("h".repeat(23) + "s", 23, 11);
        t.noFault("h".repeat(23) + "s3");
        t.fault("h".repeat(23) + "s4", 23, 12);
        t.fault("h".repeat(23) + "s9", 23, 12);
        t.noFault("h".repeat(23) + "j23");
        t.fault("h".repeat(23) + "j24", 23, 14);

        t.of(DEPTHS, "for a text without instructions 2 (only of lay());");
        StackStates empty = new StackStates();
        empty.fault();
        list(empty, "of fault()");
        empty.lay();
        list(empty, "of lay()", 2);

        t.of(DEPTHS, "for a flaw (only of lay()) 3, then 21, 22 or 23, then 30 plus the number of the instruction, or, for"
                + " 23, 30 plus the number of targets.");
        t.flaw("n01j00", 21, 0);
        t.flaw("g0".repeat(12) + "p".repeat(10) + "b23j22", 21, 22);
        t.flaw("w", 22, 0);
        t.flaw("g0p".repeat(11) + "j23p", 22, 23);
        t.flaw("j01j02j00", 23, 3);
        StackStates flaw = new StackStates();
        Check.rewrite(flaw, "w");
        flaw.fault();
        list(flaw, "of fault(), which knows no flaws");
    }

    // ---- promises 1 to 7

    private void newObject() {
        t.ofPromise(1, "Creates an object with the program described, R 2, the costs 1, 2, 2, an empty text, no run.");
        StackStates x = new StackStates();
        int[] counts = {16, 2, 1, 2, 2, 16, 2, 0, 0, 0, 0};
        for (int what = 0; what < 11; what++) t.due("count(" + what + ")", x.count(what), counts[what]);
        for (int i = 0; i < 16; i++) t.due("weight " + i, x.code(i, 4), 1);
        t.due("wipe()", x.wipe(), 0);
        t.due("undo()", x.undo(), NO);
        t.due("registers(2)", x.registers(2), NO);
        t.due("costs(1, 2, 2)", x.costs(1, 2, 2), NO);
        t.due("step(1)", x.step(1), NO);
        t.due("now(0)", x.now(0), NO);
        t.due("profile()", x.profile(), NO);
    }

    private void writing() {
        t.ofPromise(2, "Appends a character to the text.");
        StackStates x = new StackStates();
        x.write('n');
        x.write('0');
        x.write('7');
        t.due("lay()", x.lay(), 1);
        t.due("number", x.code(0, 1), 7);
        x.write('q');
        t.due("the last one", x.fault(), 3);

        t.ofPromise(2, "`letter`: its code, 32 to 126");
        for (int letter = 32; letter <= 126; letter++) {
            t.due("write(" + letter + ")", new StackStates().write(letter), 1);
        }

        t.ofPromise(2, "Returns the number of characters then");
        StackStates y = new StackStates();
        for (int k = 1; k <= 200; k++) t.due("write", y.write(32 + k % 95), k);

        t.ofPromise(2, "BAD if letter is out of range");
        StackStates z = new StackStates();
        for (int letter : new int[] {31, 127, 0, -1, 128, 255, 256 + 'h', 65536 + 'h', LOW, LOW + 'h', HIGH}) {
            t.due("write(" + letter + ")", z.write(letter), BAD);
            t.due("nothing is appended", z.count(8), 0);
        }

        t.ofPromise(2, "FULL if there are 200 characters");
        StackStates full = new StackStates();
        for (int k = 1; k < 200; k++) full.write('h');
        t.due("the 200th", full.write('h'), 200);
        t.due("the 201st", full.write('h'), FULL);
        t.due("nothing is appended", full.count(8), 200);
        t.due("wrong and full", full.write(31), BAD);
        t.due("wrong and full", full.write(127), BAD);
        t.due("once more", full.write('h'), FULL);
        t.due("wipe()", full.wipe(), 200);
        t.due("no more full", full.write('h'), 1);
        t.due("lay()", full.lay(), 1);
    }

    private void wiping() {
        t.ofPromise(3, "Empties the text.");
        StackStates x = new StackStates();
        Check.rewrite(x, "qqq");
        x.wipe();
        t.due("count(8)", x.count(8), 0);
        t.due("fault()", x.fault(), NONE);
        t.due("the next is the first", x.write('h'), 1);
        t.due("nothing is left of it", x.lay(), 1);
        t.due("nothing is left of it", x.fault(), NONE);

        t.ofPromise(3, "Returns how many characters it had.");
        StackStates y = new StackStates();
        t.due("none", y.wipe(), 0);
        y.write('h');
        t.due("one", y.wipe(), 1);
        t.due("none again", y.wipe(), 0);
        for (int k = 0; k < 201; k++) y.write('h');
        t.due("200", y.wipe(), 200);
    }

    private void faults() {
        t.ofPromise(4, "Returns the fault of the text. Returns the fault");
        t.fault("?", 0, 10);
        t.fault("n01n0", 3, 11);
        t.fault("h".repeat(200), 24, 13);
        t.fault("n00".repeat(25), 72, 13);

        t.ofPromise(4, "NONE if there is none");
        t.noFault("");
        t.noFault("h");
        t.noFault("n00".repeat(24));
        // Flaws are no faults.
        t.noFault("+");
        t.noFault("j01j02j00");
    }

    private void laying() {
        t.ofPromise(5, "Lays the program of the text, in place of the former one.");
        StackStates x = new StackStates();
        Check.rewrite(x, ones(11) + "p".repeat(11) + "j23h");
        t.due("lay() of 24", x.lay(), 24);
        t.due("reached", x.count(5), 24);
        t.due("targets", x.count(6), 1);
        Check.rewrite(x, "g3");
        t.due("lay() of 1", x.lay(), 1);
        int[] code = {'g', 3, 0, 0, 1};
        for (int what = 0; what < 5; what++) t.due("code(0, " + what + ")", x.code(0, what), code[what]);
        t.due("no second one", x.code(1, 0), BAD);
        t.due("reached", x.count(5), 1);
        t.due("targets", x.count(6), 0);
        x.start();
        t.due("step(500)", x.step(500), 1);
        Check.rewrite(x, "h".repeat(24));
        t.due("lay() of 24", x.lay(), 24);
        t.due("depth of the second", x.code(1, 2), NONE);
        t.due("no target", x.code(23, 3), 0);

        t.ofPromise(5, "All weights are 1 then, and no change can be undone");
        StackStates y = new StackStates();
        y.registers(3);
        for (int i = 0; i < 16; i++) y.weigh(i, 999 - i);
        t.due("changes", y.count(7), 6);
        Check.rewrite(y, "h".repeat(24));
        y.lay();
        for (int i = 0; i < 24; i++) t.due("weight " + i, y.code(i, 4), 1);
        t.due("changes", y.count(7), 0);
        t.due("undo()", y.undo(), NO);
        y.weigh(23, 5);
        t.due("the new change", y.undo(), 0);
        t.due("weight 23", y.code(23, 4), 1);
        t.due("and no other", y.undo(), NO);

        t.ofPromise(5, "R, the costs and the text stay");
        StackStates z = new StackStates();
        z.registers(3);
        z.costs(9, 0, 8);
        Check.rewrite(z, "n01wh");
        z.lay();
        int[] counts = {3, 3, 9, 0, 8, 3, 0, 0, 5, 0, 0};
        for (int what = 0; what < 11; what++) t.due("count(" + what + ")", z.count(what), counts[what]);
        t.due("states()", z.states(), 16);
        t.due("passage(1, 2)", z.passage(1, 2), 8);
        t.due("lay() again", z.lay(), 3);
        t.due("wipe()", z.wipe(), 5);

        t.ofPromise(5, "Returns the number of instructions");
        for (int size = 1; size <= 24; size++) t.lays("h".repeat(size), size);

        t.ofPromise(5, "NO if it cannot be laid");
        for (String text : new String[] {"", "q", "n", "g4", "j01", "h".repeat(25), "+", "n01j00", "j01j02j00"}) {
            StackStates no = new StackStates();
            Check.rewrite(no, text);
            t.due("lay() of " + text, no.lay(), NO);
            t.due("the program stays", no.count(0), 16);
            t.due("the text stays", no.count(8), text.length());
        }
    }

    private void causeNumbers() {
        t.ofPromise(6, "Returns one of the causes. - `i`: index Returns the number");
        StackStates x = new StackStates();
        Check.rewrite(x, "n01w".repeat(11) + "wh");
        x.lay();
        int[] due = {3, 22, 52};
        for (int i = 0; i < 3; i++) t.due("cause(" + i + ")", x.cause(i), due[i]);

        t.ofPromise(6, "NONE if there are not so many causes");
        t.due("cause(3)", x.cause(3), NONE);
        t.due("cause(HIGH)", x.cause(HIGH), NONE);
        t.due("a new object", new StackStates().cause(0), NONE);
        Check.rewrite(x, "?");
        x.fault();
        t.due("of a fault, the last", x.cause(1), 10);
        t.due("of a fault, one more", x.cause(2), NONE);
        x.wipe();
        x.lay();
        t.due("of an empty text, the last", x.cause(0), 2);
        t.due("of an empty text, one more", x.cause(1), NONE);

        t.ofPromise(6, "BAD if i is negative");
        for (int i : new int[] {-1, -2, LOW}) {
            t.due("cause(" + i + ")", x.cause(i), BAD);
            t.due("without causes", new StackStates().cause(i), BAD);
        }
    }

    private void codes() {
        t.ofPromise(7, "Returns a property of an instruction. - `i`: number of the instruction - `what`: 0: the code of its"
                + " character; 1: its number, for n, g, s, j and b; 2: its depth; 3: 1 if it is a target, 0 if not; 4: its"
                + " weight Returns the property");
        String[] texts = {"n00", "n99", "+", "-", "*", "d", "x", "p", "o", "r", "g0", "g3", "s0", "s3", "j04", "b04", "w",
            "h"};
        int[] numbers = {0, 99, NONE, NONE, NONE, NONE, NONE, NONE, NONE, NONE, 0, 3, 0, 3, 4, 4, NONE, NONE};
        for (int k = 0; k < texts.length; k++) {
            StackStates x = Check.laid(ones(3) + texts[k] + "h");
            t.due("sign of " + texts[k], x.code(3, 0), texts[k].charAt(0));
            t.due("number of " + texts[k], x.code(3, 1), numbers[k]);
            t.due("depth of " + texts[k], x.code(3, 2), 3);
            t.due("target behind " + texts[k], x.code(4, 3), numbers[k] == 4 ? 1 : 0);
            t.due("no target " + texts[k], x.code(3, 3), 0);
            t.due("weight of " + texts[k], x.code(3, 4), 1);
            x.weigh(3, 999);
            t.due("weight of " + texts[k], x.code(3, 4), 999);
        }
        StackStates most = Check.laid(ones(12) + "w");
        t.due("depth 0", most.code(0, 2), 0);
        t.due("depth 12", most.code(12, 2), 12);

        t.ofPromise(7, "for 1, NONE for other instructions");
        for (int i : new int[] {6, 7, 8, 9, 12, 15}) t.due("number of " + i, new StackStates().code(i, 1), NONE);
        t.due("number 0 is a number", Check.laid("n00").code(0, 1), 0);

        t.ofPromise(7, "for 2, NONE if it is not reached");
        StackStates some = Check.laid("j02n01h");
        t.due("not reached", some.code(1, 2), NONE);
        t.due("reached", some.code(2, 2), 0);
        t.due("its other properties", some.code(1, 0), 'n');
        t.due("its other properties", some.code(1, 1), 1);
        t.due("its other properties", some.code(1, 3), 0);
        t.due("its other properties", some.code(1, 4), 1);

        t.ofPromise(7, "BAD if an argument is out of range");
        StackStates first = new StackStates();
        for (int what = 0; what < 5; what++) {
            for (int i : new int[] {-1, 16, 17, 23, 24, LOW, HIGH}) t.due("code(" + i + ")", first.code(i, what), BAD);
            t.due("the last one", first.code(15, what) == BAD ? 1 : 0, 0);
        }
        for (int what : new int[] {-1, 5, 6, LOW, HIGH}) {
            t.due("what " + what, first.code(0, what), BAD);
            t.due("what " + what, first.code(15, what), BAD);
            t.due("not reached, what " + what, some.code(1, what), BAD);
        }
        StackStates full = Check.laid("h".repeat(24));
        t.due("code(23, 0)", full.code(23, 0), 'h');
        t.due("code(24, 0)", full.code(24, 0), BAD);
        StackStates one = Check.laid("h");
        t.due("code(0, 0)", one.code(0, 0), 'h');
        t.due("code(1, 0)", one.code(1, 0), BAD);
    }
}
