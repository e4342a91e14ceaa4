import java.util.ArrayList;
import java.util.List;
import java.util.Random;

/** Random texts: most of them can be laid, some have a flaw or a fault. */
final class Programs {
    private static final String SIGNS = "n+-*dxporgsjbwh";
    private static final int[] TAKES = {0, 2, 2, 2, 1, 2, 1, 2, 3, 0, 1, 0, 1, 1, 0};
    private static final int[] COMES = {1, 1, 1, 1, 2, 2, 0, 3, 3, 1, 0, 0, 0, 0, 0};

    private Programs() { }

    /** A text of a program that falls through to its end, with jumps and branches to at most two depths. */
    static String fitting(Random random, int size) {
        List<String> signs = new ArrayList<>();
        int[] depths = new int[size + 1];
        for (int i = 0; i < size; i++) {
            int kind = fittingKind(random, depths[i]);
            depths[i + 1] = depths[i] - TAKES[kind] + COMES[kind];
            signs.add("" + SIGNS.charAt(kind));
        }
        int[] goals = {random.nextInt(size), random.nextInt(size)};
        StringBuilder text = new StringBuilder();
        for (int i = 0; i < size; i++) {
            char sign = signs.get(i).charAt(0);
            text.append(sign);
            if (sign == 'n') text.append(two(random.nextInt(5) == 0 ? 0 : random.nextInt(100)));
            if (sign == 'g' || sign == 's') text.append(random.nextInt(4));
            if (sign == 'j' || sign == 'b') text.append(two(goal(random, goals, depths, i, size)));
        }
        return text.toString();
    }

    private static int fittingKind(Random random, int depth) {
        for (int k = 0; k < 1000; k++) {
            int kind = random.nextInt(SIGNS.length());
            if (kind == 11 && random.nextInt(4) != 0 || kind == 14 && random.nextInt(8) != 0) continue;
            if (depth < 3 && COMES[kind] < TAKES[kind] && random.nextInt(2) == 0) continue;
            if (depth >= TAKES[kind] && depth - TAKES[kind] + COMES[kind] <= 12) return kind;
        }
        return 0;
    }

    private static int goal(Random random, int[] goals, int[] depths, int i, int size) {
        int[] tries = {goals[random.nextInt(2)], goals[0], goals[1]};
        for (int t : tries) {
            if (depths[t] == depths[i + 1] || random.nextInt(20) == 0) return t;
        }
        for (int k = 0; k < 20; k++) {
            int t = random.nextInt(size);
            if (depths[t] == depths[i + 1]) return t;
        }
        return Math.min(i + 1, size - 1);
    }

    static String two(int number) {
        return "" + number / 10 + number % 10;
    }

    /** A text with characters changed, left out or put in. */
    static String spoilt(Random random, String text) {
        StringBuilder result = new StringBuilder(text);
        String letters = SIGNS + "0123456789 ~q:/";
        for (int k = random.nextInt(3); k >= 0 && result.length() > 0; k--) {
            int place = random.nextInt(result.length());
            char letter = letters.charAt(random.nextInt(letters.length()));
            int way = random.nextInt(3);
            if (way == 0) result.setCharAt(place, letter);
            else if (way == 1) result.deleteCharAt(place);
            else result.insert(place, letter);
        }
        return result.toString();
    }
}
