/** Promise 15: transition costs, against a search over all situations of registers and places. */
public final class PassagesTest {
    private static final int[] FEW = {0, 1, 2, 4, 9};

    public static void main(String[] args) {
        Check check = new Check();
        int[] costs = args.length > 0 ? new int[] {0, 1, 2, 3, 4, 5, 6, 7, 8, 9} : FEW;
        for (int r = 1; r <= 3; r++) {
            for (int move : costs) {
                for (int load : costs) compare(check, r, move, load, costs);
            }
        }
        check.end();
    }

    private static void compare(Check check, int r, int move, int load, int[] costs) {
        for (int store : costs) {
            check.about("R " + r + ", costs " + move + " " + load + " " + store);
            StackStates x = new StackStates();
            Model model = new Model();
            x.registers(r);
            model.registers(r);
            x.costs(move, load, store);
            model.costs(move, load, store);
            for (int s = 0; s < model.states(); s++) {
                for (int t = 0; t < model.states(); t++) {
                    check.due("passage(" + s + ", " + t + ")", x.passage(s, t), model.passage(s, t));
                }
            }
        }
    }
}
