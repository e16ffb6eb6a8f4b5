import java.util.ArrayList;
import java.util.Arrays;
import java.util.HashSet;
import java.util.List;
import java.util.Random;
import java.util.Set;
import java.util.TreeMap;
import java.util.function.Predicate;

/** Draws runs of calls from fixed seeds and compares every answer with that of a slow second program. */
public final class ReferenceTest {

    /** A term as the document tells it: what it asks of a row, and its depth. */
    private static final class Term {
        final Predicate<int[]> asks;
        final int depth;

        Term(Predicate<int[]> asks, int depth) {
            this.asks = asks;
            this.depth = depth;
        }
    }

    /** The document's words, one by one, without care for speed. A tuple has -1 for no value. */
    private static final class Reference {
        final List<Integer> values = new ArrayList<>();
        final Set<List<Integer>> invalid = new HashSet<>();
        final List<int[]> relations = new ArrayList<>();
        final List<Term> stack = new ArrayList<>();
        final List<Term> rules = new ArrayList<>();
        final List<Integer> seeds = new ArrayList<>();
        boolean underWay;
        Set<List<Integer>> goals = new HashSet<>();
        Set<List<Integer>> covered = new HashSet<>();
        List<Integer> taken = new ArrayList<>();
        List<Integer> gains = new ArrayList<>();
        TreeMap<Integer, int[]> rows;

        TreeMap<Integer, int[]> allRows() {
            if (rows == null) {
                rows = new TreeMap<>();
                addRows(new int[values.size()], 0);
            }
            return rows;
        }

        void addRows(int[] row, int p) {
            if (p == row.length) {
                int number = 0;
                for (int q = row.length - 1; q >= 0; q--) {
                    number = number * 4 + row[q];
                }
                rows.put(number, row.clone());
                return;
            }
            for (int v = 0; v < values.get(p); v++) {
                row[p] = v;
                addRows(row, p + 1);
            }
        }

        int invalidCount(List<Integer> tuple) {
            int count = 0;
            for (int p = 0; p < tuple.size(); p++) {
                count += invalid.contains(Arrays.asList(p, tuple.get(p))) ? 1 : 0;
            }
            return count;
        }

        int kindOf(int[] row) {
            for (Term rule : rules) {
                if (!rule.asks.test(row)) {
                    return 0;
                }
            }
            int count = invalidCount(part(row, -1));
            return count == 0 ? 2 : count == 1 ? 1 : 0;
        }

        static List<Integer> part(int[] row, int set) {
            List<Integer> tuple = new ArrayList<>();
            for (int p = 0; p < row.length; p++) {
                tuple.add((set >> p & 1) != 0 ? row[p] : -1);
            }
            return tuple;
        }

        boolean asked(int set) {
            for (int[] relation : relations) {
                if ((set & ~relation[0]) == 0 && Integer.bitCount(set) == relation[1]) {
                    return true;
                }
            }
            return false;
        }

        void findGoals() {
            goals.clear();
            for (int[] row : allRows().values()) {
                int kind = kindOf(row);
                for (int set = 1; set < 1 << values.size(); set++) {
                    if (kind != 0 && asked(set) && invalidCount(part(row, set)) == 2 - kind) {
                        goals.add(part(row, set));
                    }
                }
            }
        }

        Set<List<Integer>> coveredBy(int[] row) {
            Set<List<Integer>> found = new HashSet<>();
            int kind = kindOf(row);
            for (int set = 1; set < 1 << values.size(); set++) {
                List<Integer> tuple = part(row, set);
                if (goals.contains(tuple) && (kind == 2 || invalidCount(tuple) > 0)) {
                    found.add(tuple);
                }
            }
            return found;
        }

        int gainOf(int[] row) {
            Set<List<Integer>> found = coveredBy(row);
            found.removeAll(covered);
            return found.size();
        }

        void take(int number) {
            int[] row = allRows().get(number);
            gains.add(gainOf(row));
            taken.add(number);
            covered.addAll(coveredBy(row));
        }

        int parameter(int count) {
            if (underWay) return -1;
            if (count < 2 || count > 4 || values.size() == 6) return -2;
            values.add(count);
            rows = null;
            return values.size() - 1;
        }

        boolean hasValue(int p, int v) {
            return p >= 0 && p < values.size() && v >= 0 && v < values.get(p);
        }

        boolean invalid(int p, int v) {
            return !underWay && hasValue(p, v) && invalid.add(Arrays.asList(p, v));
        }

        int relation(int set, int strength) {
            if (underWay) return -1;
            if (set < 1 || set >= 1 << values.size() || strength < 1 || strength > 3
                    || Integer.bitCount(set) < strength) return -2;
            if (relations.size() == 8) return -3;
            relations.add(new int[] {set, strength});
            return relations.size();
        }

        boolean is(int p, int v) {
            return !underWay && hasValue(p, v) && stack.size() < 8
                    && stack.add(new Term(row -> row[p] == v, 1));
        }

        boolean not() {
            if (underWay || stack.isEmpty()) return false;
            Term x = stack.get(stack.size() - 1);
            if (x.depth == 8) return false;
            stack.set(stack.size() - 1, new Term(row -> !x.asks.test(row), x.depth + 1));
            return true;
        }

        boolean join(int op) {
            if (underWay || op < 0 || op > 2 || stack.size() < 2) return false;
            Term y = stack.get(stack.size() - 1);
            Term x = stack.get(stack.size() - 2);
            int depth = 1 + Math.max(x.depth, y.depth);
            if (depth > 8) return false;
            stack.remove(stack.size() - 1);
            Predicate<int[]> asks = op == 0 ? row -> x.asks.test(row) && y.asks.test(row)
                    : op == 1 ? row -> x.asks.test(row) || y.asks.test(row)
                    : row -> !x.asks.test(row) || y.asks.test(row);
            stack.set(stack.size() - 1, new Term(asks, depth));
            return true;
        }

        int require() {
            if (underWay) return -1;
            if (stack.isEmpty()) return -2;
            if (rules.size() == 8) return -3;
            rules.add(stack.remove(stack.size() - 1));
            return rules.size();
        }

        int seed(int number) {
            if (underWay) return -1;
            if (seeds.size() == 8) return -2;
            seeds.add(number);
            return seeds.size();
        }

        int begin() {
            if (underWay) return -1;
            if (values.isEmpty()) return -2;
            if (allRows().values().stream().noneMatch(row -> kindOf(row) == 2)) return -3;
            underWay = true;
            findGoals();
            covered.clear();
            taken.clear();
            gains.clear();
            for (int number : seeds) {
                if (kind(number) > 0) take(number);
            }
            return goals.size();
        }

        int next() {
            if (!underWay) return -1;
            if (covered.containsAll(goals)) return -2;
            boolean valid = goals.stream().anyMatch(goal -> invalidCount(goal) == 0 && !covered.contains(goal));
            int best = -1;
            int most = -1;
            for (int number : allRows().keySet()) {
                int[] row = allRows().get(number);
                if (kindOf(row) == (valid ? 2 : 1) && gainOf(row) > most) {
                    most = gainOf(row);
                    best = number;
                }
            }
            take(best);
            return best;
        }

        boolean end() {
            boolean was = underWay;
            underWay = false;
            return was;
        }

        int rows() {
            return underWay ? taken.size() : 0;
        }

        int row(int i) {
            return underWay && i >= 0 && i < taken.size() ? taken.get(i) : -1;
        }

        int gained(int i) {
            return underWay && i >= 0 && i < taken.size() ? gains.get(i) : -1;
        }

        int left() {
            return underWay ? goals.size() - covered.size() : -1;
        }

        int gain(int number) {
            if (!underWay) return -1;
            return kind(number) > 0 ? gainOf(allRows().get(number)) : -2;
        }

        int kind(int number) {
            return values.isEmpty() || !allRows().containsKey(number) ? -1 : kindOf(allRows().get(number));
        }

        int extendable(int partial) {
            if (values.isEmpty() || (partial & ~((1 << 3 * values.size()) - 1)) != 0) return -1;
            for (int p = 0; p < values.size(); p++) {
                int v = partial >> 3 * p & 7;
                if (v != 7 && v >= values.get(p)) return -1;
            }
            int best = 0;
            for (int[] row : allRows().values()) {
                boolean has = true;
                for (int p = 0; p < row.length; p++) {
                    int v = partial >> 3 * p & 7;
                    has &= v == 7 || v == row[p];
                }
                best = has ? Math.max(best, kindOf(row)) : best;
            }
            return best;
        }

        int forbidden(int size) {
            if (size < 1 || size > 3) return -1;
            if (values.isEmpty()) return 0;
            Set<List<Integer>> inValid = new HashSet<>();
            Set<List<Integer>> sound = new HashSet<>();
            for (int[] row : allRows().values()) {
                for (int set = 0; set < 1 << values.size(); set++) {
                    List<Integer> tuple = part(row, set);
                    if (kindOf(row) == 2 && Integer.bitCount(set) <= 3) inValid.add(tuple);
                    if (Integer.bitCount(set) == size && invalidCount(tuple) == 0) sound.add(tuple);
                }
            }
            int count = 0;
            for (List<Integer> tuple : sound) {
                boolean minimal = !inValid.contains(tuple);
                for (int p = 0; p < tuple.size(); p++) {
                    List<Integer> others = new ArrayList<>(tuple);
                    others.set(p, -1);
                    minimal &= tuple.get(p) == -1 || inValid.contains(others);
                }
                count += minimal ? 1 : 0;
            }
            return count;
        }
    }

    private static final int[] ODD = {Integer.MIN_VALUE, Integer.MAX_VALUE, -1, 31, 32, 63, 64, 4095, 4096, 1 << 18};
    private static int wrong = 0;

    private final Random random;
    private final CombinationRows x = new CombinationRows();
    private final Reference y = new Reference();
    private final StringBuilder calls = new StringBuilder();
    private final int maxParameters;

    private ReferenceTest(long seed, int maxParameters) {
        this.random = new Random(seed);
        this.maxParameters = maxParameters;
    }

    private int below(int bound) {
        return random.nextInt(60) == 0 ? ODD[random.nextInt(ODD.length)] : random.nextInt(bound + 1) - random.nextInt(20) / 19;
    }

    private int someNumber() {
        int number = 0;
        for (int p = y.values.size() - 1; p >= 0; p--) {
            number = number * 4 + random.nextInt(y.values.get(p));
        }
        return random.nextInt(12) == 0 ? below(4096) : number;
    }

    private int somePartial() {
        int partial = 0;
        for (int p = y.values.size() - 1; p >= 0; p--) {
            int v = random.nextInt(40) == 0 ? random.nextInt(8) : random.nextInt(y.values.get(p));
            partial = partial << 3 | (random.nextBoolean() ? 7 : v);
        }
        return random.nextInt(20) == 0 ? below(1 << 18) : partial;
    }

    private boolean same(String call, long got, long want) {
        calls.append(call).append(" -> ").append(got).append('\n');
        if (got == want) {
            return true;
        }
        wrong++;
        System.out.println(calls + "due is " + want);
        return false;
    }

    private boolean same(String call, boolean got, boolean want) {
        return same(call, got ? 1L : 0L, want ? 1L : 0L);
    }

    private boolean setUp() {
        int a = below(y.values.size() + 1);
        int b = below(4);
        switch (random.nextInt(24)) {
            case 0:
                if (y.values.size() == maxParameters && maxParameters < 6) return true;
                return same("parameter " + b, x.parameter(b), y.parameter(b));
            case 1:
                return random.nextInt(2) > 0 || same("invalid " + a + " " + b, x.invalid(a, b), y.invalid(a, b));
            case 2: case 3:
                int set = below((1 << y.values.size()) - 1);
                int strength = random.nextInt(6) == 0 ? b : 1 + random.nextInt(Math.max(1, Math.min(3, Integer.bitCount(set))));
                return same("relation " + set + " " + strength, x.relation(set, strength), y.relation(set, strength));
            case 4: case 5: case 6: case 7: case 8: case 9: case 10:
                return same("is " + a + " " + b, x.is(a, b), y.is(a, b));
            case 11: case 12: case 13: case 14:
                return same("not", x.not(), y.not());
            case 15: case 16: case 17: case 18: case 19: case 20:
                int op = random.nextInt(6) == 0 ? 0 : below(3);
                return same("join " + op, x.join(op), y.join(op));
            case 21:
                return same("require", x.require(), y.require());
            case 22:
                int number = someNumber();
                return random.nextInt(3) > 0 || same("seed " + number, x.seed(number), y.seed(number));
            default:
                return random.nextInt(3) > 0 || same("begin", x.begin(), y.begin());
        }
    }

    private boolean ask() {
        int number = someNumber();
        int i = below(y.taken.size() + 1);
        switch (random.nextInt(10)) {
            case 0: return same("rows", x.rows(), y.rows());
            case 1: return same("row " + i, x.row(i), y.row(i));
            case 2: return same("gained " + i, x.gained(i), y.gained(i));
            case 3: return same("left", x.left(), y.left());
            case 4: case 5: return same("gain " + number, x.gain(number), y.gain(number));
            case 6: return same("kind " + number, x.kind(number), y.kind(number));
            case 7:
                int size = random.nextInt(5);
                return y.values.size() > 4 && random.nextInt(4) > 0
                        || same("forbidden " + size, x.forbidden(size), y.forbidden(size));
            default:
                int partial = somePartial();
                return same("extendable " + partial, x.extendable(partial), y.extendable(partial));
        }
    }

    private boolean oneCall() {
        int kind = random.nextInt(20);
        if (kind < 5) {
            return ask();
        }
        boolean isDone = y.underWay && y.left() == 0;
        if (kind == 19 && random.nextInt(10) == 0 || isDone && kind > 12) {
            return same("end", x.end(), y.end());
        }
        if (y.underWay && kind < 18) {
            return same("next", x.next(), y.next());
        }
        return setUp();
    }

    private void run(int count) {
        for (int p = 0; p < maxParameters && random.nextInt(12) > 0; p++) {
            int values = 2 + random.nextInt(3);
            same("parameter " + values, x.parameter(values), y.parameter(values));
        }
        for (int i = 0; i < count; i++) {
            if (!oneCall()) {
                return;
            }
        }
    }

    /** All 512 calls, with rows of at most three values other than 0, so that many rows are taken. */
    private void runLong() {
        for (int p = 0; p < 6; p++) {
            same("parameter 4", x.parameter(4), y.parameter(4));
        }
        same("relation 63 3", x.relation(63, 3), y.relation(63, 3));
        requireThreeZeros();
        for (int number = 1; number <= 8; number++) {
            same("seed " + 21 * number, x.seed(21 * number), y.seed(21 * number));
        }
        same("begin", x.begin(), y.begin());
        for (int i = 0; i < 440; i++) {
            same("next", x.next(), y.next());
        }
        for (int i = y.rows() - 6; i < y.rows(); i++) {
            same("row " + i, x.row(i), y.row(i));
            same("gained " + i, x.gained(i), y.gained(i));
        }
    }

    /** So many zeros among the first three parameters and so many among the others make three. */
    private void requireThreeZeros() {
        zeros(0, "&&");
        zeros(3, "&&");
        join(1);
        for (int first = 0; first <= 3; first += 3) {
            zero(first);
            zero(first + 1);
            join(0);
            zeros(first, "|&");
            join(1);
            zeros(3 - first, "||");
            join(0);
            join(1);
        }
        same("require", x.require(), y.require());
    }

    private void zeros(int first, String ops) {
        zero(first);
        zero(first + 1);
        join(ops.charAt(0) == '&' ? 0 : 1);
        zero(first + 2);
        join(ops.charAt(1) == '&' ? 0 : 1);
    }

    private void zero(int p) {
        same("is " + p + " 0", x.is(p, 0), y.is(p, 0));
    }

    private void join(int op) {
        same("join " + op, x.join(op), y.join(op));
    }

    public static void main(String[] args) {
        for (int seed = 0; seed < 4000 && wrong == 0; seed++) {
            new ReferenceTest(seed, 1 + seed % 4).run(200);
        }
        for (int seed = 0; seed < 200 && wrong == 0; seed++) {
            new ReferenceTest(seed, 5 + seed % 4 / 3).run(200);
        }
        new ReferenceTest(0, 6).runLong();
        System.out.println(wrong == 0 ? "all answers are those of the reference" : "not those of the reference");
        System.exit(wrong == 0 ? 0 : 1);
    }
}
