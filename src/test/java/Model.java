import java.util.ArrayDeque;
import java.util.ArrayList;
import java.util.Arrays;
import java.util.Collections;
import java.util.Deque;
import java.util.HashMap;
import java.util.HashSet;
import java.util.List;
import java.util.Map;
import java.util.PriorityQueue;
import java.util.TreeSet;

/**
 * The document once more, in another way and without regard to speed: transitions by a search over what
 * the registers and places hold, choices by trying all of them.
 */
final class Model {
    static final int BAD = -1, NO = -2, FULL = -3, NONE = -4, ZERO = 1000000000;

    record Instruction(char sign, int number, int place) {
        int takes() {
            return switch (sign) {
                case 'n', 'g', 'j', 'h' -> 0;
                case 'd', 'p', 's', 'b', 'w' -> 1;
                case 'r' -> 3;
                default -> 2;
            };
        }

        int comes() {
            return switch (sign) {
                case 'n', '+', '-', '*', 'g' -> 1;
                case 'd', 'x' -> 2;
                case 'o', 'r' -> 3;
                default -> 0;
            };
        }

        boolean leads() {
            return sign == 'j' || sign == 'b';
        }
    }

    record Setting(int registers, int move, int load, int store, List<Integer> weights) { }

    record Version(int leaves, int cost, boolean plain) { }

    private final StringBuilder text = new StringBuilder();
    private List<Integer> causes = List.of();
    private List<Instruction> program = List.of();
    private Integer[] depths = {};
    private TreeSet<Integer> targets = new TreeSet<>();
    private Setting setting = new Setting(2, 1, 2, 2, List.of());
    private final Deque<Setting> former = new ArrayDeque<>();

    private final Map<String, Integer> passages = new HashMap<>();
    private int[] choice = null;
    private int choiceCost;

    private boolean run = false;
    private boolean ended;
    private int at, present, paid, steps;
    private final List<Integer> stack = new ArrayList<>();
    private final List<Integer> outputs = new ArrayList<>();
    private int[] variables = new int[4];
    private int[] executed = {};

    Model() {
        text.append("n05s0g0b15g0n03*dwpg0n01-s0j02h");
        lay();
        text.setLength(0);
    }

    // ---- programs

    int write(int letter) {
        if (letter < 32 || letter > 126) return BAD;
        if (text.length() >= 200) return FULL;
        text.append((char) letter);
        return text.length();
    }

    int wipe() {
        int n = text.length();
        text.setLength(0);
        return n;
    }

    private final List<Instruction> parsed = new ArrayList<>();

    int fault() {
        causes = List.of();
        parsed.clear();
        String rest = text.toString();
        while (!rest.isEmpty()) {
            int place = text.length() - rest.length();
            char sign = rest.charAt(0);
            int digits = "njb".indexOf(sign) >= 0 ? 2 : "gs".indexOf(sign) >= 0 ? 1 : 0;
            int reason = 0;
            if (parsed.size() == 24) reason = 13;
            else if (!rest.matches("[-n+*dxporgsjbwh].*")) reason = 10;
            else if (!rest.matches(".[0-9]{" + digits + "}.*")) reason = 11;
            else if (rest.matches("[gs][4-9].*")) reason = 12;
            if (reason != 0) {
                causes = List.of(1, reason);
                return place;
            }
            int number = digits == 0 ? NONE : Integer.parseInt(rest.substring(1, 1 + digits));
            parsed.add(new Instruction(sign, number, place));
            rest = rest.substring(1 + digits);
        }
        for (Instruction i : parsed) {
            if (i.leads() && i.number() >= parsed.size()) {
                causes = List.of(1, 14);
                return i.place();
            }
        }
        return NONE;
    }

    int lay() {
        if (fault() != NONE) return NO;
        if (parsed.isEmpty()) {
            causes = List.of(2);
            return NO;
        }
        Integer[] found = new Integer[parsed.size()];
        TreeSet<Integer> led = new TreeSet<>();
        causes = search(found, led);
        if (!causes.isEmpty()) return NO;
        program = List.copyOf(parsed);
        depths = found;
        targets = led;
        former.clear();
        List<Integer> ones = Collections.nCopies(program.size(), 1);
        set(new Setting(setting.registers(), setting.move(), setting.load(), setting.store(), ones));
        return program.size();
    }

    private List<Integer> search(Integer[] found, TreeSet<Integer> led) {
        PriorityQueue<Integer> open = new PriorityQueue<>();
        found[0] = 0;
        open.add(0);
        while (!open.isEmpty()) {
            int i = open.remove();
            Instruction it = parsed.get(i);
            int after = found[i] - it.takes() + it.comes();
            if (found[i] < it.takes() || after > 12) return List.of(3, 22, 30 + i);
            for (int next : follow(parsed, i)) {
                if (found[next] == null) {
                    found[next] = after;
                    open.add(next);
                } else if (found[next] != after) {
                    return List.of(3, 21, 30 + next);
                }
            }
            if (it.leads()) led.add(it.number());
        }
        return led.size() > 2 ? List.of(3, 23, 30 + led.size()) : List.of();
    }

    private static List<Integer> follow(List<Instruction> list, int i) {
        List<Integer> result = new ArrayList<>();
        char sign = list.get(i).sign();
        if (sign != 'j' && sign != 'h' && i + 1 < list.size()) result.add(i + 1);
        if (list.get(i).leads()) result.add(list.get(i).number());
        return result;
    }

    int cause(int i) {
        return i < 0 ? BAD : i < causes.size() ? causes.get(i) : NONE;
    }

    int code(int i, int what) {
        if (noInstruction(i) || what < 0 || what > 4) return BAD;
        Instruction it = program.get(i);
        int depth = depths[i] == null ? NONE : depths[i];
        return new int[] {it.sign(), it.number(), depth, targets.contains(i) ? 1 : 0,
            setting.weights().get(i)}[what];
    }

    // ---- changes

    private void set(Setting s) {
        setting = s;
        passages.clear();
        choice = null;
        run = false;
    }

    private void change(Setting s) {
        former.push(setting);
        if (former.size() > 6) former.removeLast();
        set(s);
    }

    int registers(int r) {
        if (r < 1 || r > 3) return BAD;
        int old = setting.registers();
        if (old == r) return NO;
        change(new Setting(r, setting.move(), setting.load(), setting.store(), setting.weights()));
        return old;
    }

    int costs(int move, int load, int store) {
        for (int c : new int[] {move, load, store}) if (c < 0 || c > 9) return BAD;
        int old = 100 * setting.move() + 10 * setting.load() + setting.store();
        if (old == 100 * move + 10 * load + store) return NO;
        change(new Setting(setting.registers(), move, load, store, setting.weights()));
        return old;
    }

    private void reweigh(List<Integer> weights) {
        change(new Setting(setting.registers(), setting.move(), setting.load(), setting.store(), weights));
    }

    int weigh(int i, int w) {
        if (noInstruction(i) || w < 1 || w > 999) return BAD;
        int old = setting.weights().get(i);
        if (old == w) return NO;
        List<Integer> weights = new ArrayList<>(setting.weights());
        weights.set(i, w);
        reweigh(weights);
        return old;
    }

    int profile() {
        if (!run) return NO;
        List<Integer> weights = new ArrayList<>();
        int changed = 0;
        for (int i = 0; i < program.size(); i++) {
            weights.add(Math.min(999, 1 + executed[i]));
            if (!weights.get(i).equals(setting.weights().get(i))) changed++;
        }
        if (changed == 0) return NO;
        reweigh(weights);
        return changed;
    }

    int undo() {
        if (former.isEmpty()) return NO;
        set(former.pop());
        return former.size();
    }

    // ---- states

    private List<List<Integer>> allStates() {
        List<List<Integer>> result = new ArrayList<>();
        result.add(List.of());
        for (int k = 0; k < result.size(); k++) {
            for (int r = 0; r < setting.registers(); r++) {
                if (result.get(k).contains(r)) continue;
                List<Integer> longer = new ArrayList<>(result.get(k));
                longer.add(r);
                result.add(longer);
            }
        }
        return result;
    }

    int states() {
        return allStates().size();
    }

    int state(int s, int i) {
        if (noState(s) || i < -1) return BAD;
        List<Integer> list = allStates().get(s);
        if (i == -1) return list.size();
        return i < list.size() ? list.get(i) : NONE;
    }

    int passage(int s, int t) {
        if (noState(s) || noState(t)) return BAD;
        return passages.computeIfAbsent(s + ">" + t, key -> searchPassage(s, t));
    }

    // A situation has the cells that the three registers hold, -1 for none, and then the places, 1 for good.
    private int searchPassage(int s, int t) {
        List<Integer> from = allStates().get(s);
        List<Integer> to = allStates().get(t);
        int[] first = {-1, -1, -1, 1, 1, 1};
        for (int c = 0; c < from.size(); c++) {
            first[from.get(c)] = c;
            first[3 + c] = 0;
        }
        Map<List<Integer>, Integer> cheapest = new HashMap<>();
        HashSet<List<Integer>> settled = new HashSet<>();
        PriorityQueue<List<Integer>> open = new PriorityQueue<>((a, b) -> a.get(6) - b.get(6));
        offer(first, 0, cheapest, open);
        while (!open.isEmpty()) {
            List<Integer> entry = open.remove();
            if (!settled.add(entry.subList(0, 6))) continue;
            int cost = entry.get(6);
            int[] now = entry.stream().mapToInt(v -> v).limit(6).toArray();
            if (arrived(now, to)) return cost;
            for (int r = 0; r < setting.registers(); r++) {
                for (int q = 0; q < setting.registers(); q++) {
                    if (now[q] >= 0) offer(with(now, r, now[q]), cost + setting.move(), cheapest, open);
                }
                for (int c = 0; c < 3; c++) {
                    if (now[3 + c] == 1) offer(with(now, r, c), cost + setting.load(), cheapest, open);
                }
                if (now[r] >= 0) offer(with(now, 3 + now[r], 1), cost + setting.store(), cheapest, open);
            }
        }
        throw new IllegalStateException("no way");
    }

    private static boolean arrived(int[] now, List<Integer> to) {
        for (int c = 0; c < 3; c++) {
            if (c < to.size() ? now[to.get(c)] != c : now[3 + c] != 1) return false;
        }
        return true;
    }

    private static int[] with(int[] row, int i, int value) {
        int[] copy = row.clone();
        copy[i] = value;
        return copy;
    }

    private static void offer(int[] row, int cost, Map<List<Integer>, Integer> cheapest,
            PriorityQueue<List<Integer>> open) {
        List<Integer> key = new ArrayList<>();
        for (int v : row) key.add(v);
        if (cheapest.getOrDefault(key, Integer.MAX_VALUE) <= cost) return;
        cheapest.put(key, cost);
        List<Integer> entry = new ArrayList<>(key);
        entry.add(cost);
        open.add(entry);
    }

    private Version versionOf(Instruction it, int s) {
        List<List<Integer>> all = allStates();
        List<Integer> row = new ArrayList<>(all.get(s));
        int d = row.size();
        if (d < it.takes() || d - it.takes() + it.comes() > setting.registers()) {
            if (s != 0) return null;
            if (it.sign() == 'p') return new Version(0, 0, false);
            return new Version(0, it.takes() * setting.load() + it.comes() * setting.store(), true);
        }
        int cost = 0;
        switch (it.sign()) {
            case 'x' -> row.add(0, row.remove(1));
            case 'r' -> row.add(0, row.remove(2));
            case 'd', 'o' -> {
                row.add(0, free(row));
                cost = setting.move();
            }
            default -> {
                for (int k = 0; k < it.takes(); k++) row.remove(0);
                if (it.comes() == 1) row.add(0, free(row));
            }
        }
        return new Version(all.indexOf(row), cost, false);
    }

    private static int free(List<Integer> row) {
        int r = 0;
        while (row.contains(r)) r++;
        return r;
    }

    int version(int i, int s, int what) {
        if (noInstruction(i) || noState(s) || what < 0 || what > 2) return BAD;
        Version v = versionOf(program.get(i), s);
        if (v == null) return NONE;
        return what == 0 ? v.leaves() : what == 1 ? v.cost() : v.plain() ? 1 : 0;
    }

    // ---- choices

    /** A search over all choices, in the order that decides between equally cheap ones. */
    private final class Search {
        final List<Integer> order = new ArrayList<>();
        final int[] given = new int[program.size()];
        final Version[][] versions = new Version[program.size()][states()];
        final int[][] costs = new int[states()][states()];
        int onlyAt = -1, onlyState = -1;
        int cost = Integer.MAX_VALUE;
        int[] found = null;

        Search() {
            Arrays.fill(given, -1);
            order.addAll(targets);
            for (int i = 0; i < program.size(); i++) {
                if (depths[i] != null && !order.contains(i)) order.add(i);
                for (int s = 0; s < states(); s++) versions[i][s] = versionOf(program.get(i), s);
            }
            for (int s = 0; s < states(); s++) {
                for (int t = 0; t < states(); t++) costs[s][t] = passage(s, t);
            }
        }

        void go(int k, int sum) {
            if (sum >= cost) return;
            if (k == order.size()) {
                cost = sum;
                found = given.clone();
                return;
            }
            int i = order.get(k);
            for (int s = 0; s < states(); s++) {
                if (versions[i][s] == null || state(s, -1) > depths[i]) continue;
                if (i == 0 && s != 0 || i == onlyAt && s != onlyState) continue;
                given[i] = s;
                go(k + 1, sum + added(i));
                given[i] = -1;
            }
        }

        // What is known of the cost now, but was not before the state of i was given.
        private int added(int i) {
            int sum = setting.weights().get(i) * versions[i][given[i]].cost();
            for (int from : order) {
                if (given[from] < 0) continue;
                for (int to : follow(program, from)) {
                    if (given[to] < 0 || from != i && to != i) continue;
                    sum += setting.weights().get(from) * costs[versions[from][given[from]].leaves()][given[to]];
                }
            }
            return sum;
        }
    }

    private void choose() {
        if (choice != null) return;
        Search search = new Search();
        search.go(0, 0);
        choice = search.found;
        choiceCost = search.cost;
    }

    int best() {
        choose();
        return choiceCost;
    }

    int meets(int i, int what) {
        if (noInstruction(i) || what < 0 || what > 1) return BAD;
        if (depths[i] == null) return NONE;
        choose();
        return what == 0 ? choice[i] : versionOf(program.get(i), choice[i]).leaves();
    }

    int ifMeets(int i, int s) {
        if (noInstruction(i) || noState(s)) return BAD;
        if (depths[i] == null) return NONE;
        Search search = new Search();
        search.onlyAt = i;
        search.onlyState = s;
        search.go(0, 0);
        return search.found == null ? NONE : search.cost;
    }

    // ---- runs

    int start() {
        choose();
        run = true;
        ended = false;
        at = 0;
        present = choice[0];
        paid = 0;
        steps = 0;
        stack.clear();
        outputs.clear();
        variables = new int[4];
        executed = new int[program.size()];
        return present;
    }

    int step(int n) {
        if (n < 1 || n > 500) return BAD;
        if (!run || ended) return NO;
        int done = 0;
        while (done < n && !ended) {
            if (program.get(at).sign() == 'w' && outputs.size() == 16) ended = true;
            else {
                one();
                done++;
            }
        }
        return done;
    }

    private int take() {
        return stack.remove(stack.size() - 1);
    }

    private void one() {
        Instruction it = program.get(at);
        Version v = versionOf(it, present);
        Integer next = at + 1 < program.size() ? at + 1 : null;
        int top = stack.size() - 1;
        switch (it.sign()) {
            case 'n' -> stack.add(it.number());
            case '+' -> stack.add(take() + take());
            case '-' -> stack.add(-take() + take());
            case '*' -> stack.add(take() * take());
            case 'd' -> stack.add(stack.get(top));
            case 'x' -> stack.add(stack.remove(top - 1));
            case 'p' -> take();
            case 'o' -> stack.add(stack.get(top - 1));
            case 'r' -> stack.add(stack.remove(top - 2));
            case 'g' -> stack.add(variables[it.number()]);
            case 's' -> variables[it.number()] = take();
            case 'j' -> next = it.number();
            case 'b' -> next = take() == 0 ? Integer.valueOf(it.number()) : next;
            case 'w' -> outputs.add(take());
            default -> next = null;
        }
        executed[at]++;
        steps++;
        paid += v.cost();
        if (next == null) {
            ended = true;
            present = v.leaves();
        } else {
            paid += passage(v.leaves(), choice[next]);
            at = next;
            present = choice[next];
        }
    }

    int now(int what) {
        if (what < 0 || what > 5) return BAD;
        if (!run) return NO;
        return new int[] {ended ? NONE : at, present, stack.size(), paid, steps, outputs.size()}[what];
    }

    private static int shown(int cell) {
        long rest = (long) cell % ZERO;
        return (int) (rest < 0 ? rest + ZERO : rest);
    }

    int cell(int i) {
        if (i < 0) return BAD;
        if (!run) return NO;
        return i < stack.size() ? shown(stack.get(stack.size() - 1 - i)) : NONE;
    }

    int register(int r) {
        if (r < 0 || r >= setting.registers()) return BAD;
        if (!run) return NO;
        int i = allStates().get(present).indexOf(r);
        return i < 0 ? NONE : cell(i);
    }

    int memory(int i) {
        if (i < 0) return BAD;
        if (!run) return NO;
        if (i >= stack.size() || stack.size() - 1 - i < allStates().get(present).size()) return NONE;
        return shown(stack.get(i));
    }

    int variable(int k) {
        if (k < 0 || k > 3) return BAD;
        return run ? shown(variables[k]) : NO;
    }

    int out(int i) {
        if (i < 0) return BAD;
        if (!run) return NO;
        return i < outputs.size() ? shown(outputs.get(i)) : NONE;
    }

    int went(int i) {
        if (noInstruction(i)) return BAD;
        return run ? executed[i] : NO;
    }

    int count(int what) {
        if (what < 0 || what > 10) return BAD;
        int reached = 0;
        for (Integer depth : depths) if (depth != null) reached++;
        return new int[] {program.size(), setting.registers(), setting.move(), setting.load(), setting.store(),
            reached, targets.size(), former.size(), text.length(), causes.size(), run ? 1 : 0}[what];
    }

    private boolean noInstruction(int i) {
        return i < 0 || i >= program.size();
    }

    private boolean noState(int s) {
        return s < 0 || s >= states();
    }
}
