/** Counts the answers that are not as due, and tells them. */
final class Check {
    private int wrong = 0;
    private int asked = 0;
    private String about = "";

    void about(String what) {
        about = what;
    }

    void due(String call, long got, long want) {
        asked++;
        if (got == want) return;
        wrong++;
        if (wrong <= 50) System.out.println(about + ": " + call + " answered " + got + ", due is " + want);
    }

    void isTrue(String claim, boolean holds) {
        due(claim, holds ? 1 : 0, 1);
    }

    boolean failed() {
        return wrong > 0;
    }

    void end() {
        System.out.println(asked + " answers, " + wrong + " not as due");
        if (wrong > 0) System.exit(1);
    }

    static StackStates laid(String text) {
        StackStates x = new StackStates();
        rewrite(x, text);
        if (x.lay() < 0) throw new IllegalStateException("cannot be laid: " + text);
        return x;
    }

    static void rewrite(StackStates x, String text) {
        x.wipe();
        for (char letter : text.toCharArray()) x.write(letter);
    }
}
