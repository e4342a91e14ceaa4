import java.util.ArrayList;
import java.util.HashMap;
import java.util.List;
import java.util.Map;
import java.util.Random;

/**
 * Promises 17, 18 and 19 for programs of up to 24 instructions and three registers. The choices are found
 * anew from code(), version() and passage(), which other tests look at.
 */
public final class ChoicesTest {
    private static final int UNKNOWN = -1;
    private static final int FAR = 1 << 29;

    // The answers up to an object's 512th call are promised, and it takes up to 101 calls to make one.
    private static final int MOST_ASKED = 400;

    private final long seed;
    private StackStates latest;
    private int asked = 0;
    private final int size;
    private final int states;
    private final List<Integer> targets = new ArrayList<>();
    private final int[] given;
    private int onlyAt = UNKNOWN;
    private int onlyState = UNKNOWN;
    private final Map<Integer, Integer> known = new HashMap<>();
    private final int[][][] versions;
    private final int[][] passages;
    private final int[] lengths;
    private final int[] signs;
    private final int[] numbers;
    private final int[] depths;
    private final int[] weights;

    private ChoicesTest(long seed, StackStates x) {
        this.seed = seed;
        latest = x;
        size = x().count(0);
        states = x().states();
        signs = codes(0);
        numbers = codes(1);
        depths = codes(2);
        weights = codes(4);
        given = new int[size];
        versions = new int[size][states][2];
        passages = new int[states][states];
        lengths = new int[states];
        for (int i = 0; i < size; i++) {
            given[i] = UNKNOWN;
            if (x().code(i, 3) == 1) targets.add(i);
            for (int s = 0; s < states; s++) {
                for (int what = 0; what < 2; what++) versions[i][s][what] = x().version(i, s, what);
            }
        }
        for (int s = 0; s < states; s++) {
            lengths[s] = x().state(s, -1);
            for (int t = 0; t < states; t++) passages[s][t] = x().passage(s, t);
        }
    }

    private StackStates x() {
        if (asked++ < MOST_ASKED) return latest;
        asked = 1;
        latest = laidAtRandom(new Random(seed));
        return latest;
    }

    private int[] codes(int what) {
        int[] result = new int[size];
        for (int i = 0; i < size; i++) result[i] = x().code(i, what);
        return result;
    }

    public static void main(String[] args) {
        Check check = new Check();
        int runs = args.length > 0 ? Integer.parseInt(args[0]) : 1500;
        for (int seed = 1; seed <= runs; seed++) {
            StackStates x = laidAtRandom(new Random(seed));
            if (x == null) continue;
            check.about("seed " + seed);
            new ChoicesTest(seed, x).compare(check, new Random(seed));
        }
        check.end();
    }

    private static StackStates laidAtRandom(Random random) {
        String text = Programs.fitting(random, 10 + random.nextInt(15));
        StackStates x = new StackStates();
        for (char letter : text.toCharArray()) x.write(letter);
        if (x.lay() < 0) return null;
        x.registers(random.nextInt(4) == 0 ? 1 : 3);
        x.costs(random.nextInt(10), random.nextInt(10), random.nextInt(10));
        for (int i = 0; i < x.count(0); i++) {
            if (random.nextInt(2) == 0) x.weigh(i, 1 + random.nextInt(random.nextInt(2) == 0 ? 3 : 999));
        }
        return x;
    }

    private void compare(Check check, Random random) {
        check.due("best()", x().best(), cheapest());
        int[] best = firstOfCheapest();
        for (int i = 0; i < size; i++) {
            boolean reached = depths[i] >= 0;
            check.due("meets(" + i + ", 0)", x().meets(i, 0), reached ? best[i] : StackStates.NONE);
            int left = reached ? versions[i][best[i]][0] : StackStates.NONE;
            check.due("meets(" + i + ", 1)", x().meets(i, 1), left);
        }
        for (int k = 0; k < 12; k++) {
            onlyAt = random.nextInt(size);
            onlyState = random.nextInt(states);
            int cost = depths[onlyAt] < 0 ? FAR : cheapest();
            int due = cost >= FAR ? StackStates.NONE : cost;
            check.due("ifMeets(" + onlyAt + ", " + onlyState + ")", x().ifMeets(onlyAt, onlyState), due);
        }
    }

    private boolean may(int i, int s) {
        if (i == onlyAt && s != onlyState || i == 0 && s != 0) return false;
        return versions[i][s][0] != StackStates.NONE && lengths[s] <= depths[i];
    }

    private int cheapest() {
        return cheapestPins(0, new int[size]);
    }

    private int[] firstOfCheapest() {
        int[] result = new int[size];
        cheapestPins(0, result);
        return result;
    }

    // Gives states to the targets from the k-th one on; result gets the first of the cheapest choices.
    private int cheapestPins(int k, int[] result) {
        if (k == targets.size()) {
            known.clear();
            int cost = from(0, 0);
            if (cost < FAR) trace(result);
            return cost;
        }
        int smallest = FAR;
        int[] tried = new int[size];
        for (int s = 0; s < states; s++) {
            if (!may(targets.get(k), s)) continue;
            given[targets.get(k)] = s;
            int cost = cheapestPins(k + 1, tried);
            if (cost >= smallest) continue;
            smallest = cost;
            System.arraycopy(tried, 0, result, 0, size);
        }
        given[targets.get(k)] = UNKNOWN;
        return smallest;
    }

    // The smallest cost of instruction i and all behind it in the text, if i - 1 has left the state left.
    private int from(int i, int left) {
        if (i == size) return 0;
        Integer before = known.get(i * 16 + left);
        if (before != null) return before;
        int smallest = FAR;
        if (depths[i] < 0) smallest = from(i + 1, 0);
        else for (int s = 0; s < states; s++) smallest = Math.min(smallest, with(i, left, s));
        known.put(i * 16 + left, smallest);
        return smallest;
    }

    private int with(int i, int left, int s) {
        if (!may(i, s) || given[i] != UNKNOWN && given[i] != s) return FAR;
        int weight = weights[i];
        int leaves = versions[i][s][0];
        int sum = weight * versions[i][s][1];
        if (signs[i] == 'j' || signs[i] == 'b') sum += weight * passages[leaves][given[numbers[i]]];
        if (i > 0 && enters(i - 1)) sum += weights[i - 1] * passages[left][s];
        return Math.min(FAR, sum + from(i + 1, leaves));
    }

    private boolean enters(int i) {
        return depths[i] >= 0 && signs[i] != 'j' && signs[i] != 'h';
    }

    private void trace(int[] result) {
        int left = 0;
        for (int i = 0; i < size; i++) {
            if (depths[i] < 0) {
                left = 0;
                continue;
            }
            int s = 0;
            while (with(i, left, s) != from(i, left)) s++;
            result[i] = s;
            left = versions[i][s][0];
        }
    }
}
