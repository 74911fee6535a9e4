import java.math.BigInteger;
import java.util.ArrayDeque;
import java.util.ArrayList;
import java.util.Arrays;
import java.util.Collections;
import java.util.Deque;
import java.util.HashSet;
import java.util.List;
import java.util.Set;
import java.util.TreeSet;

/**
 * The document once more, as literally and wastefully as it can be said: nothing is held but the
 * state, every answer is worked out anew, sets are sets and fractions are exact.
 */
final class Model {
    static final int UNKNOWN = -1, BAD = -2, LATE = -3, FULL = -4, NONE = -9;

    record Op(char sign, int row, int cell, int digit, int left, int right) {
        boolean memory() {
            return sign == 'l' || sign == 's';
        }

        List<Integer> operands() {
            return switch (sign) {
                case 'l', 'k' -> List.of();
                case 's' -> List.of(left);
                default -> List.of(left, right);
            };
        }
    }

    record State(List<Integer> starts, int base, int known, int width) {
    }

    record Plan(List<List<Integer>> kept, List<Integer> gains, List<List<Integer>> schedule) {
        int sum() {
            return gains.stream().mapToInt(g -> g).sum();
        }

        Set<Integer> members() {
            Set<Integer> all = new TreeSet<>();
            kept.forEach(all::addAll);
            return all;
        }
    }

    record Outcome(int[] memory, int[] values, int stop) {
    }

    private String text = "";
    private List<Op> ops = new ArrayList<>();
    private State state = first(8, 1, 2);
    private final Deque<State> before = new ArrayDeque<>();
    private final State[] slots = new State[2];
    private final List<int[]> seen = new ArrayList<>();
    private long x = 0;

    private static State first(int base, int known, int width) {
        List<Integer> starts = new ArrayList<>();
        for (int a = 0; a < 16; a++) {
            starts.add(a + 1);
        }
        return new State(starts, base, known, width);
    }

    // ---- the text

    int write(int letter) {
        if (letter < 0 || letter > 255) {
            return BAD;
        }
        if (text.length() == 80) {
            return FULL;
        }
        text += (char) letter;
        return text.length();
    }

    int wipe() {
        int old = text.length();
        text = "";
        return old;
    }

    /** The instructions of a complete text, or null. */
    private static List<Op> read(String s) {
        if (!s.matches("(?s)V[0-8][01][24](l[AB][0-7]|k[0-9]|[-+*/][a-p][a-p]|s[AB][0-7][a-p]){0,16}")) {
            return null;
        }
        List<Op> list = new ArrayList<>();
        int p = 4;
        while (p < s.length()) {
            char c = s.charAt(p);
            Op op = switch (c) {
                case 'l' -> new Op(c, s.charAt(p + 1) - 'A', s.charAt(p + 2) - '0', 0, 0, 0);
                case 'k' -> new Op(c, 0, 0, s.charAt(p + 1) - '0', 0, 0);
                case 's' -> new Op(c, s.charAt(p + 1) - 'A', s.charAt(p + 2) - '0', 0, s.charAt(p + 3) - 'a', 0);
                default -> new Op(c, 0, 0, 0, s.charAt(p + 1) - 'a', s.charAt(p + 2) - 'a');
            };
            for (int o : op.operands()) {
                if (o >= list.size() || list.get(o).sign() == 's') {
                    return null;
                }
            }
            list.add(op);
            p += c == 'k' ? 2 : c == 's' ? 4 : 3;
        }
        return list;
    }

    /** Whether something can be appended that makes a text complete; the letter a is always an operand. */
    private static boolean canGoOn(String s) {
        String header = "V812";
        if (s.length() < 4) {
            return read(s + header.substring(s.length())) != null;
        }
        for (String end : List.of("", "0", "a", "aa", "A0", "0a", "A0a")) {
            if (read(s + end) != null) {
                return true;
            }
        }
        return false;
    }

    int fault() {
        for (int k = 0; k < text.length(); k++) {
            if (!canGoOn(text.substring(0, k + 1))) {
                return k;
            }
        }
        return read(text) == null ? text.length() : NONE;
    }

    int block() {
        List<Op> list = read(text);
        if (list == null) {
            return LATE;
        }
        ops = list;
        state = first(text.charAt(1) - '0', text.charAt(2) - '0', text.charAt(3) - '0');
        before.clear();
        slots[0] = null;
        slots[1] = null;
        return ops.size();
    }

    // ---- dependences

    private static int address(Op op, State s) {
        return op.row() == 0 ? op.cell() : s.base() + op.cell();
    }

    private boolean follows(int j, int i, State s, Set<Integer> omitted) {
        if (i >= j || omitted.contains(i) || omitted.contains(j)) {
            return false;
        }
        Op a = ops.get(i);
        Op b = ops.get(j);
        if (b.operands().contains(i)) {
            return true;
        }
        if (a.memory() && b.memory() && (a.sign() == 's' || b.sign() == 's')) {
            boolean same = a.row() == b.row() && a.cell() == b.cell();
            boolean other = a.row() != b.row() && (s.known() == 0 || address(a, s) == address(b, s));
            if (same || other) {
                return true;
            }
        }
        return a.sign() == '/' && "/s".indexOf(b.sign()) >= 0 || b.sign() == '/' && "/s".indexOf(a.sign()) >= 0;
    }

    private boolean dependsOn(int j, int i, State s, Set<Integer> omitted) {
        Set<Integer> reached = new HashSet<>();
        Deque<Integer> open = new ArrayDeque<>(List.of(j));
        while (!open.isEmpty()) {
            int at = open.pop();
            for (int e = 0; e < at; e++) {
                if (follows(at, e, s, omitted) && reached.add(e)) {
                    open.push(e);
                }
            }
        }
        return reached.contains(i);
    }

    // ---- packs

    private boolean isPack(List<Integer> bundle, State s, Set<Integer> omitted) {
        Op first = ops.get(bundle.get(0));
        if (bundle.size() != s.width() || "l+-*s".indexOf(first.sign()) < 0) {
            return false;
        }
        if (new HashSet<>(bundle).size() != bundle.size()) {
            return false;
        }
        for (int k = 0; k < bundle.size(); k++) {
            Op op = ops.get(bundle.get(k));
            if (op.sign() != first.sign()) {
                return false;
            }
            if (op.memory() && (op.row() != first.row() || op.cell() != first.cell() + k)) {
                return false;
            }
            for (int other : bundle) {
                if (dependsOn(bundle.get(k), other, s, omitted)) {
                    return false;
                }
            }
        }
        return true;
    }

    private static boolean meet(Set<Integer> a, List<Integer> b) {
        return b.stream().anyMatch(a::contains);
    }

    /** Fills the packs of the tree, and gives its gain. */
    private int tree(List<Integer> root, Set<Integer> kept, State s, Set<Integer> omitted, List<List<Integer>> packs) {
        List<List<Integer>> queue = new ArrayList<>();
        Set<Integer> own = new HashSet<>(root);
        Set<Integer> loose = new HashSet<>();
        int costs = 0;
        packs.add(root);
        queue.add(root.stream().map(i -> ops.get(i).left()).toList());
        while (!queue.isEmpty()) {
            List<Integer> bundle = queue.remove(0);
            if (isPack(bundle, s, omitted) && !meet(kept, bundle) && !meet(own, bundle)) {
                packs.add(bundle);
                own.addAll(bundle);
                if (ops.get(bundle.get(0)).sign() != 'l') {
                    appendOperands(bundle, queue);
                }
            } else if (!packs.contains(bundle)) {
                boolean same = new HashSet<>(bundle).size() == 1;
                boolean constants = bundle.stream().allMatch(i -> ops.get(i).sign() == 'k');
                costs += same || constants ? 1 : s.width();
                loose.addAll(bundle);
            }
        }
        int gain = (s.width() - 1) * packs.size() - costs;
        for (int i : own) {
            if (ops.get(i).sign() != 's' && (loose.contains(i) || usedOutside(i, own, kept, omitted))) {
                gain--;
            }
        }
        return gain;
    }

    private boolean usedOutside(int i, Set<Integer> own, Set<Integer> kept, Set<Integer> omitted) {
        for (int user = 0; user < ops.size(); user++) {
            if (!omitted.contains(user) && ops.get(user).operands().contains(i) && !own.contains(user)
                    && !kept.contains(user)) {
                return true;
            }
        }
        return false;
    }

    private void appendOperands(List<Integer> pack, List<List<Integer>> queue) {
        List<Integer> lefts = new ArrayList<>();
        List<Integer> rights = new ArrayList<>();
        char wanted = ops.get(ops.get(pack.get(0)).left()).sign();
        for (int k = 0; k < pack.size(); k++) {
            Op op = ops.get(pack.get(k));
            boolean turn = k > 0 && (op.sign() == '+' || op.sign() == '*')
                    && ops.get(op.left()).sign() != wanted && ops.get(op.right()).sign() == wanted;
            lefts.add(turn ? op.right() : op.left());
            rights.add(turn ? op.left() : op.right());
        }
        queue.add(lefts);
        queue.add(rights);
    }

    private List<Integer> root(int row, int cell, Set<Integer> kept, State s, Set<Integer> omitted) {
        List<Integer> root = new ArrayList<>();
        for (int k = 0; k < s.width(); k++) {
            for (int i = 0; i < ops.size(); i++) {
                Op op = ops.get(i);
                if (op.sign() == 's' && op.row() == row && op.cell() == cell + k && !kept.contains(i)
                        && !omitted.contains(i)) {
                    root.add(i);
                    break;
                }
            }
        }
        return root.size() == s.width() && isPack(root, s, omitted) ? root : null;
    }

    /** The schedule as a list of nodes, or null if there is none. */
    private List<List<Integer>> schedule(List<List<Integer>> packs, State s, Set<Integer> omitted) {
        List<List<Integer>> nodes = new ArrayList<>(packs);
        for (int i = 0; i < ops.size(); i++) {
            int here = i;
            if (!omitted.contains(i) && packs.stream().noneMatch(p -> p.contains(here))) {
                nodes.add(List.of(i));
            }
        }
        nodes.sort((a, b) -> Integer.compare(Collections.min(a), Collections.min(b)));
        List<List<Integer>> done = new ArrayList<>();
        Set<Integer> there = new HashSet<>(omitted);
        while (!nodes.isEmpty()) {
            List<Integer> next = null;
            for (List<Integer> node : nodes) {
                if (next == null && ready(node, there, s, omitted)) {
                    next = node;
                }
            }
            if (next == null) {
                return null;
            }
            nodes.remove(next);
            done.add(next);
            there.addAll(next);
        }
        return done;
    }

    private boolean ready(List<Integer> node, Set<Integer> there, State s, Set<Integer> omitted) {
        for (int j : node) {
            for (int i = 0; i < j; i++) {
                if (follows(j, i, s, omitted) && !there.contains(i) && !node.contains(i)) {
                    return false;
                }
            }
        }
        return true;
    }

    private Plan plan(State s, Set<Integer> omitted) {
        List<List<Integer>> kept = new ArrayList<>();
        List<Integer> gains = new ArrayList<>();
        for (int row = 0; row < 2; row++) {
            for (int cell = 0; cell <= 8 - s.width(); cell++) {
                Set<Integer> members = new HashSet<>();
                kept.forEach(members::addAll);
                List<Integer> root = root(row, cell, members, s, omitted);
                if (root == null) {
                    continue;
                }
                List<List<Integer>> packs = new ArrayList<>();
                int gain = tree(root, members, s, omitted, packs);
                List<List<Integer>> together = new ArrayList<>(kept);
                together.addAll(packs);
                if (gain > 0 && schedule(together, s, omitted) != null) {
                    kept = together;
                    gains.add(gain);
                }
            }
        }
        return new Plan(kept, gains, schedule(kept, s, omitted));
    }

    private Plan plan() {
        return plan(state, Set.of());
    }

    // ---- runs

    private Outcome run(List<Integer> order, List<Integer> starts, int idle) {
        int[] memory = starts.stream().mapToInt(v -> v).toArray();
        int[] values = new int[ops.size()];
        for (int i : order) {
            Op op = ops.get(i);
            if (i == idle) {
                continue;
            }
            int l = op.operands().isEmpty() ? 0 : values[op.left()];
            int r = op.operands().size() < 2 ? 0 : values[op.right()];
            switch (op.sign()) {
                case 'l' -> values[i] = memory[address(op, state)];
                case 'k' -> values[i] = op.digit();
                case '+' -> values[i] = l + r;
                case '-' -> values[i] = l - r;
                case '*' -> values[i] = l * r;
                case 's' -> memory[address(op, state)] = l;
                default -> {
                    if (r == 0) {
                        return new Outcome(memory, values, i);
                    }
                    values[i] = l / r;
                }
            }
        }
        return new Outcome(memory, values, NONE);
    }

    private List<Integer> plainOrder() {
        List<Integer> order = new ArrayList<>();
        for (int i = 0; i < ops.size(); i++) {
            order.add(i);
        }
        return order;
    }

    private Outcome plainRun() {
        return run(plainOrder(), state.starts(), NONE);
    }

    private Outcome packedRun() {
        List<Integer> order = new ArrayList<>();
        plan().schedule().forEach(order::addAll);
        return run(order, state.starts(), NONE);
    }

    // ---- what is asked of the block

    private int cost() {
        return (int) ops.stream().filter(op -> op.sign() != 'k').count();
    }

    private static int mask(Iterable<Integer> set) {
        int mask = 0;
        for (int i : set) {
            mask += 1 << i;
        }
        return mask;
    }

    private State with(int what, int v) {
        return new State(state.starts(), what == 0 ? v : state.base(), what == 1 ? v : state.known(),
                what == 2 ? v : state.width());
    }

    int about(int what) {
        return switch (what) {
            case 0 -> ops.size();
            case 1 -> state.base();
            case 2 -> state.known();
            case 3 -> state.width();
            case 4 -> cost();
            case 5 -> cost() - plan().sum();
            case 6 -> plan().kept().size();
            case 7 -> mask(plan().members());
            case 8 -> plan().gains().size();
            case 9 -> plainRun().stop();
            case 10 -> packedRun().stop();
            case 11 -> plan(with(2, 4), Set.of()).sum() > plan(with(2, 2), Set.of()).sum() ? 4 : 2;
            case 12 -> before.size();
            case 13 -> seen.size();
            case 14 -> text.length();
            default -> BAD;
        };
    }

    private boolean exists(int i) {
        return i >= 0 && i < ops.size();
    }

    int instruction(int i, int what) {
        if (!exists(i)) {
            return UNKNOWN;
        }
        if (what < 0 || what > 5) {
            return BAD;
        }
        if (what == 0) {
            return "lk+-*/s".indexOf(ops.get(i).sign());
        }
        if (what == 4) {
            return (int) plainOrder().stream().filter(e -> dependsOn(i, e, state, Set.of())).count();
        }
        if (what == 5) {
            return plainRun().values()[i];
        }
        List<List<Integer>> lists = what == 3 ? plan().schedule() : plan().kept();
        for (int n = 0; n < lists.size(); n++) {
            if (lists.get(n).contains(i)) {
                return what == 2 ? lists.get(n).indexOf(i) : n;
            }
        }
        return NONE;
    }

    int address(int address, int what) {
        if (address < 0 || address > 15) {
            return UNKNOWN;
        }
        return switch (what) {
            case 0 -> state.starts().get(address) + 100;
            case 1 -> plainRun().memory()[address];
            case 2 -> packedRun().memory()[address];
            default -> BAD;
        };
    }

    int depends(int i, int j) {
        if (!exists(i) || !exists(j)) {
            return UNKNOWN;
        }
        return dependsOn(j, i, state, Set.of()) ? 1 : 0;
    }

    // ---- acts

    private void act() {
        before.addLast(state);
        if (before.size() > 14) {
            before.removeFirst();
        }
    }

    int start(int address, int v) {
        if (address < 0 || address > 15) {
            return UNKNOWN;
        }
        if (v < -99 || v > 99) {
            return BAD;
        }
        act();
        List<Integer> starts = new ArrayList<>(state.starts());
        int old = starts.set(address, v);
        state = new State(starts, state.base(), state.known(), state.width());
        return old + 100;
    }

    int set(int what, int v) {
        List<List<Integer>> allowed = List.of(List.of(0, 1, 2, 3, 4, 5, 6, 7, 8), List.of(0, 1), List.of(2, 4));
        if (what < 0 || what > 2 || !allowed.get(what).contains(v)) {
            return BAD;
        }
        int old = about(what + 1);
        act();
        state = with(what, v);
        return old;
    }

    int undo() {
        if (before.isEmpty()) {
            return LATE;
        }
        state = before.removeLast();
        return before.size();
    }

    // ---- asked

    int tried(int row, int cell) {
        if (row < 0 || row > 1 || cell < 0 || cell > 8 - state.width()) {
            return BAD;
        }
        List<Integer> root = root(row, cell, Set.of(), state, Set.of());
        return root == null ? NONE : tree(root, Set.of(), state, Set.of(), new ArrayList<>()) + 100;
    }

    int judge(int n, long row) {
        if (n < 1 || n > 3 || row < 0) {
            return BAD;
        }
        String digits = Long.toString(row);
        if (digits.length() > 5 * n) {
            return BAD;
        }
        digits = "0".repeat(5 * n - digits.length()) + digits;
        State old = state;
        int answer = NONE;
        for (int k = 0; k < n && answer == NONE; k++) {
            String command = digits.substring(5 * k, 5 * k + 5);
            if (!right(command.charAt(0), Integer.parseInt(command.substring(1, 3)),
                    Integer.parseInt(command.substring(3)))) {
                answer = k;
            }
        }
        state = old;
        return answer;
    }

    private boolean right(char d, int i, int j) {
        switch (d) {
            case '1':
                if (i == 0 && (j == 2 || j == 4)) {
                    state = with(2, j);
                    return true;
                }
                return false;
            case '2':
                if (i == 0 && j <= 1) {
                    state = with(1, j);
                    return true;
                }
                return false;
            case '3':
                if (i == 0 && j <= 8) {
                    state = with(0, j);
                    return true;
                }
                return false;
            case '4':
                return depends(i, j) == 1;
            case '5':
                return exists(i) && j <= 1 && plan().members().contains(i) == (j == 1);
            case '6':
                return i == 0 && about(5) == j;
            default:
                return false;
        }
    }

    // ---- seen

    int see(int address, int v) {
        if (address < 0 || address > 15) {
            return UNKNOWN;
        }
        if (seen.size() == 6) {
            return FULL;
        }
        seen.add(new int[] {address, v});
        return seen.size();
    }

    int unsee() {
        int old = seen.size();
        seen.clear();
        return old;
    }

    int which() {
        List<Integer> found = new ArrayList<>();
        for (int i = 0; i < ops.size(); i++) {
            int[] memory = run(plainOrder(), state.starts(), i).memory();
            if (seen.stream().allMatch(o -> memory[o[0]] == o[1])) {
                found.add(i);
            }
        }
        return mask(found);
    }

    // ---- shares, chances

    private List<Integer> stores() {
        return plainOrder().stream().filter(i -> ops.get(i).sign() == 's').toList();
    }

    private int sumWithout(Set<Integer> omitted) {
        return plan(state, omitted).sum();
    }

    private static int part(BigInteger over, BigInteger under, boolean upper) {
        BigInteger by = over.gcd(under);
        return (upper ? over : under).divide(by).intValueExact();
    }

    int share(int i, boolean upper) {
        if (!exists(i)) {
            return UNKNOWN;
        }
        if (ops.get(i).sign() != 's' || stores().size() > 6) {
            return LATE;
        }
        Integer[] memo = new Integer[1 << ops.size()];
        int[] totals = new int[2];
        orders(new ArrayList<>(), i, memo, totals);
        return part(BigInteger.valueOf(totals[0]), BigInteger.valueOf(totals[1]), upper);
    }

    /** Goes through all orders that begin with those of a list; totals are the increases and the orders. */
    private void orders(List<Integer> begun, int store, Integer[] memo, int[] totals) {
        if (begun.size() == stores().size()) {
            int at = begun.indexOf(store);
            totals[0] += sumOf(begun.subList(0, at + 1), memo) - sumOf(begun.subList(0, at), memo);
            totals[1]++;
            return;
        }
        for (int next : stores()) {
            if (!begun.contains(next)) {
                begun.add(next);
                orders(begun, store, memo, totals);
                begun.remove(begun.size() - 1);
            }
        }
    }

    private int sumOf(List<Integer> added, Integer[] memo) {
        int key = mask(added);
        if (memo[key] == null) {
            Set<Integer> omitted = new HashSet<>(stores());
            omitted.removeAll(added);
            memo[key] = sumWithout(omitted);
        }
        return memo[key];
    }

    int chance(int v, int tenths, boolean upper) {
        if (v < 0 || v > 99 || tenths < 0 || tenths > 10) {
            return BAD;
        }
        if (stores().size() > 6) {
            return LATE;
        }
        BigInteger over = chanceFrom(0, new HashSet<>(), v, tenths);
        return part(over, BigInteger.TEN.pow(stores().size()), upper);
    }

    private BigInteger chanceFrom(int k, Set<Integer> omitted, int v, int tenths) {
        if (k == stores().size()) {
            return sumWithout(omitted) >= v ? BigInteger.ONE : BigInteger.ZERO;
        }
        Set<Integer> more = new HashSet<>(omitted);
        more.add(stores().get(k));
        return chanceFrom(k + 1, more, v, tenths).multiply(BigInteger.valueOf(tenths))
                .add(chanceFrom(k + 1, omitted, v, tenths).multiply(BigInteger.valueOf(10 - tenths)));
    }

    long seed(long v) {
        long old = x;
        x = v;
        return old;
    }

    int drawn(int m) {
        if (m < 1 || m > 10) {
            return BAD;
        }
        int changed = 0;
        for (int r = 0; r < m; r++) {
            x = x * 6364136223846793005L + 1442695040888963407L;
            int v = (int) (x >>> 33);
            Integer[] starts = new Integer[16];
            for (int k = 0; k < 16; k++) {
                starts[k] = (v >> k & 15) - 4;
            }
            int[] memory = run(plainOrder(), Arrays.asList(starts), NONE).memory();
            for (int k = 0; k < 16; k++) {
                changed += memory[k] != starts[k] ? 1 : 0;
            }
        }
        return changed;
    }

    // ---- slots

    int keep(int slot) {
        if (slot < 0 || slot > 1) {
            return UNKNOWN;
        }
        slots[slot] = state;
        return state.width();
    }

    int again(int slot) {
        if (slot < 0 || slot > 1) {
            return UNKNOWN;
        }
        if (slots[slot] == null) {
            return LATE;
        }
        state = slots[slot];
        before.clear();
        return state.width();
    }
}
