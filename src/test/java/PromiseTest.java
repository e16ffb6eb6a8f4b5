/** For each promise of the document its ordinary inputs, its edges and its refusals, by hand. */
public final class PromiseTest {
    private static int wrong = 0;

    private static void due(String what, long got, long want) {
        if (got != want) {
            wrong++;
            System.out.println(what + " answered " + got + ", due is " + want);
        }
    }

    private static void due(String what, boolean got, boolean want) {
        due(what, got ? 1L : 0L, want ? 1L : 0L);
    }

    private static CombinationRows with(int... values) {
        CombinationRows x = new CombinationRows();
        for (int count : values) {
            x.parameter(count);
        }
        return x;
    }

    /** Puts IS p, v and takes it as a rule. */
    private static void requireIs(CombinationRows x, int p, int v) {
        x.is(p, v);
        x.require();
    }

    /** Puts NOT (IS p, v AND IS q, w) and takes it as a rule. */
    private static void exclude(CombinationRows x, int p, int v, int q, int w) {
        x.is(p, v);
        x.is(q, w);
        x.join(0);
        x.not();
        x.require();
    }

    private static void promise1NewObject() {
        CombinationRows x = new CombinationRows();
        due("1: kind", x.kind(0), -1);
        due("1: relation", x.relation(1, 1), -2);
        due("1: require", x.require(), -2);
        due("1: rows", x.rows(), 0);
        due("1: left", x.left(), -1);
        due("1: end", x.end(), false);
        due("1: first seed", x.seed(0), 1);
        due("1: first parameter", x.parameter(2), 0);
        due("1: first relation", x.relation(1, 1), 1);
        x.is(0, 0);
        due("1: first rule", x.require(), 1);
        CombinationRows other = new CombinationRows();
        due("1: objects are apart", other.parameter(2), 0);
    }

    private static void promise2Parameter() {
        CombinationRows x = new CombinationRows();
        int[] refused = {1, 5, 0, -1, Integer.MAX_VALUE, Integer.MIN_VALUE};
        for (int values : refused) {
            due("2: parameter " + values, x.parameter(values), -2);
        }
        due("2: none was made", x.begin(), -2);
        int[] counts = {2, 3, 4, 2, 3, 4};
        for (int p = 0; p < 6; p++) {
            due("2: parameter", x.parameter(counts[p]), p);
            due("2: last value", x.kind(counts[p] - 1 << 2 * p), 2);
            due("2: no value more", x.kind(counts[p] << 2 * p), -1);
        }
        due("2: a seventh", x.parameter(2), -2);
        due("2: no seventh", x.relation(64, 1), -2);
        x.begin();
        due("2: under way", x.parameter(2), -1);
        due("2: under way before wrong values", x.parameter(9), -1);
        x.end();
        CombinationRows later = with(2);
        later.begin();
        due("2: under way", later.parameter(2), -1);
        later.end();
        due("2: nothing was made", later.kind(4), -1);
        due("2: after the end", later.parameter(2), 1);
        due("2: it was made", later.kind(4), 2);
    }

    private static void promise3Invalid() {
        CombinationRows x = with(2, 4);
        due("3: -1, 0", x.invalid(-1, 0), false);
        due("3: 2, 0", x.invalid(2, 0), false);
        due("3: 0, -1", x.invalid(0, -1), false);
        due("3: 0, 2", x.invalid(0, 2), false);
        due("3: 1, 4", x.invalid(1, 4), false);
        due("3: far off", x.invalid(Integer.MAX_VALUE, Integer.MIN_VALUE), false);
        due("3: 1, 32", x.invalid(1, 32), false);
        due("3: none yet", x.kind(12), 2);
        due("3: 1, 3", x.invalid(1, 3), true);
        due("3: again", x.invalid(1, 3), false);
        due("3: one", x.kind(12), 1);
        due("3: others are not", x.kind(8), 2);
        due("3: 0, 0", x.invalid(0, 0), true);
        due("3: two", x.kind(12), 0);
        x.begin();
        due("3: under way", x.invalid(1, 0), false);
        due("3: nothing changed", x.kind(1), 2);
        x.end();
        due("3: after the end", x.invalid(1, 0), true);
        due("3: changed", x.kind(1), 1);
    }

    private static void promise4Relation() {
        CombinationRows x = with(2, 3, 2, 4);
        int[][] refused = {{0, 1}, {16, 1}, {-1, 1}, {31, 1}, {Integer.MIN_VALUE, 1}, {15, 0},
            {15, -1}, {15, 4}, {15, Integer.MAX_VALUE}, {1, 2}, {3, 3}, {10, 3}};
        for (int[] pair : refused) {
            due("4: relation " + pair[0] + ", " + pair[1], x.relation(pair[0], pair[1]), -2);
        }
        due("4: single ones", x.relation(10, 1), 1);
        due("4: goals of 1", goals(x), 3 + 4);
        due("4: pairs", x.relation(7, 2), 2);
        due("4: goals of 2", goals(x), 7 + 6 + 4 + 6);
        due("4: the same pairs", x.relation(3, 2), 3);
        due("4: each once", goals(x), 23);
        due("4: triple", x.relation(13, 3), 4);
        due("4: goals of 3", goals(x), 23 + 16);
        for (int count = 5; count <= 8; count++) {
            due("4: more", x.relation(15, 1), count);
        }
        due("4: a ninth", x.relation(15, 3), -3);
        due("4: wrong before a ninth", x.relation(16, 3), -2);
        due("4: wrong strength before a ninth", x.relation(15, 4), -2);
        due("4: no ninth", goals(x), 39 + 2 + 2);
        x.begin();
        due("4: under way", x.relation(15, 1), -1);
        due("4: under way before wrong", x.relation(0, 9), -1);
    }

    private static int goals(CombinationRows x) {
        int goals = x.begin();
        x.end();
        return goals;
    }

    private static void promise5Is() {
        CombinationRows x = with(2, 3);
        due("5: -1, 0", x.is(-1, 0), false);
        due("5: 2, 0", x.is(2, 0), false);
        due("5: 0, 2", x.is(0, 2), false);
        due("5: 1, -1", x.is(1, -1), false);
        due("5: far off", x.is(Integer.MIN_VALUE, Integer.MAX_VALUE), false);
        due("5: none on the stack", x.require(), -2);
        for (int i = 0; i < 8; i++) {
            due("5: is", x.is(1, i % 3), true);
        }
        due("5: a ninth", x.is(0, 1), false);
        due("5: the uppermost", x.require(), 1);
        due("5: met", x.kind(4), 2);
        due("5: not met", x.kind(0), 0);
        due("5: not met", x.kind(8), 0);
        due("5: room again", x.is(0, 0), true);
        x.begin();
        x.require();
        due("5: under way", x.is(0, 0), false);
        x.end();
        due("5: the stack has stayed", x.require(), 2);
        due("5: both met", x.kind(4), 2);
        due("5: second not met", x.kind(5), 0);
        due("5: under way or not, eight", stackOfEight(), true);
        for (int p = 0; p < 6; p++) {
            checkIs(p);
        }
    }

    private static boolean stackOfEight() {
        CombinationRows x = with(2);
        for (int i = 0; i < 8; i++) {
            x.is(0, 0);
        }
        x.begin();
        boolean kept = !x.is(0, 0);
        x.end();
        for (int i = 1; i <= 8; i++) {
            kept &= x.require() == i;
        }
        return kept && x.require() == -2;
    }

    private static void checkIs(int p) {
        for (int v = 0; v < 4; v++) {
            int met = 0;
            for (int first = 0; first < 4096; first += 256) {
                met += rightKinds(p, v, first);
            }
            due("5: rows right for IS " + p + ", " + v, met, 4096);
        }
    }

    /** An object for 256 of the rows, as it is promised 512 calls alone. */
    private static int rightKinds(int p, int v, int first) {
        CombinationRows x = with(4, 4, 4, 4, 4, 4);
        requireIs(x, p, v);
        int met = 0;
        for (int number = first; number < first + 256; number++) {
            boolean is = (number >> 2 * p & 3) == v;
            met += x.kind(number) == (is ? 2 : 0) ? 1 : 0;
        }
        return met;
    }

    private static void promise6Not() {
        CombinationRows x = with(3, 2);
        due("6: empty stack", x.not(), false);
        x.is(0, 1);
        due("6: not", x.not(), true);
        x.begin();
        due("6: under way", x.not(), false);
        x.end();
        x.require();
        due("6: NOT met", x.kind(0), 2);
        due("6: NOT not met", x.kind(1), 0);
        due("6: NOT met", x.kind(2), 2);
        x.is(1, 0);
        for (int depth = 2; depth <= 8; depth++) {
            due("6: depth " + depth, x.not(), true);
        }
        due("6: depth 9", x.not(), false);
        x.require();
        due("6: seven times not", x.kind(0), 0);
        due("6: seven times not", x.kind(4), 2);
        x.is(0, 0);
        x.is(0, 2);
        x.not();
        x.require();
        due("6: only the uppermost", x.kind(4), 2);
        due("6: only the uppermost", x.kind(6), 0);
    }

    /** The kinds of the rows 0, 1, 4, 5 of two parameters with two values, one digit for each. */
    private static int kindsAfterJoin(int op) {
        CombinationRows x = with(2, 2);
        x.is(0, 1);
        x.is(1, 1);
        x.join(op);
        x.require();
        return x.kind(0) * 1000 + x.kind(1) * 100 + x.kind(4) * 10 + x.kind(5);
    }

    private static void promise7Join() {
        due("7: AND", kindsAfterJoin(0), 2);
        due("7: OR", kindsAfterJoin(1), 222);
        due("7: IMPLIES", kindsAfterJoin(2), 2022);
        CombinationRows x = with(2, 2);
        due("7: empty stack", x.join(0), false);
        x.is(0, 1);
        due("7: one term", x.join(0), false);
        x.is(1, 1);
        due("7: op -1", x.join(-1), false);
        due("7: op 3", x.join(3), false);
        due("7: op far off", x.join(Integer.MIN_VALUE), false);
        x.begin();
        due("7: under way", x.join(0), false);
        x.end();
        due("7: both have stayed", x.join(1), true);
        due("7: one is left", x.join(1), false);
        due("7: one is left", x.require(), 1);
        due("7: none is left", x.require(), -2);
        checkDepthOfJoin();
        checkStackAroundJoin();
    }

    private static void checkDepthOfJoin() {
        CombinationRows x = with(2, 2);
        x.is(0, 0);
        for (int depth = 2; depth <= 7; depth++) {
            x.not();
        }
        x.is(1, 0);
        due("7: depth 8 from below", x.join(0), true);
        x.is(1, 0);
        due("7: depth 9 from below", x.join(0), false);
        due("7: nothing changed", x.require(), 1);
        due("7: the term IS 1, 0", x.kind(0) * 10 + x.kind(4), 20);
        due("7: the deep term", x.require(), 2);
        due("7: NOT six times", x.kind(0) * 10 + x.kind(1), 20);
        CombinationRows y = with(2, 2);
        y.is(1, 0);
        y.is(0, 0);
        for (int depth = 2; depth <= 8; depth++) {
            y.not();
        }
        due("7: depth 9 from above", y.join(1), false);
        due("7: not even one deeper", y.not(), false);
    }

    private static void checkStackAroundJoin() {
        CombinationRows x = with(4, 4);
        for (int v = 0; v < 4; v++) {
            x.is(0, v);
            x.is(1, v);
        }
        due("7: join the uppermost two", x.join(0), true);
        due("7: require it", x.require(), 1);
        due("7: only 3, 3", x.kind(15), 2);
        due("7: not 3, 2", x.kind(11), 0);
        due("7: the next below", x.is(0, 0), true);
    }

    private static void promise8Require() {
        CombinationRows x = with(2, 2);
        due("8: empty stack", x.require(), -2);
        for (int i = 1; i <= 8; i++) {
            x.is(0, 1);
            due("8: rule", x.require(), i);
        }
        due("8: empty before eight", x.require(), -2);
        x.is(1, 1);
        due("8: a ninth", x.require(), -3);
        due("8: no ninth", x.kind(1), 2);
        x.is(1, 0);
        due("8: the term has stayed", x.join(0), true);
        x.begin();
        due("8: under way", x.require(), -1);
        CombinationRows y = with(2, 2);
        y.begin();
        due("8: under way before empty", y.require(), -1);
        CombinationRows z = with(2);
        requireIs(z, 0, 1);
        z.parameter(3);
        due("8: a parameter made later", z.kind(9), 2);
        due("8: a parameter made later", z.kind(8), 0);
        due("8: stack of a later parameter", z.is(1, 2), true);
    }

    private static void promise9Seed() {
        CombinationRows x = new CombinationRows();
        int[] numbers = {1, -1, Integer.MIN_VALUE, Integer.MAX_VALUE, 2, 1, 0, 4096};
        for (int i = 0; i < 8; i++) {
            due("9: seed " + numbers[i], x.seed(numbers[i]), i + 1);
        }
        due("9: a ninth", x.seed(0), -2);
        x.parameter(2);
        x.begin();
        due("9: under way", x.seed(0), -1);
        due("9: those that are rows", x.rows(), 3);
        due("9: in their order", x.row(0) * 100 + x.row(1) * 10 + x.row(2), 110);
        x.end();
        x.parameter(3);
        x.begin();
        due("9: still those", x.rows(), 3);
        CombinationRows y = with(2);
        y.begin();
        due("9: under way", y.seed(0), -1);
        y.end();
        due("9: none was given", y.seed(0), 1);
    }

    private static void promise10Begin() {
        CombinationRows x = new CombinationRows();
        due("10: no parameter", x.begin(), -2);
        due("10: none is under way", x.end(), false);
        x.parameter(2);
        x.parameter(3);
        due("10: no relation", x.begin(), 0);
        due("10: under way", x.begin(), -1);
        x.end();
        x.relation(3, 2);
        due("10: all pairs", goals(x), 6);
        exclude(x, 0, 1, 1, 2);
        due("10: without the one excluded", goals(x), 5);
        x.invalid(1, 0);
        due("10: invalid ones too", goals(x), 5);
        x.invalid(0, 0);
        due("10: not with two invalid values", goals(x), 1 + 1 + 1 + 1);
        x.seed(5);
        due("10: seeds do not lessen it", goals(x), 4);
        x.invalid(0, 1);
        due("10: no VALID row", x.begin(), -3);
        due("10: none is under way", x.left(), -1);
        due("10: though NEGATIVE ones", x.kind(5), 1);
        CombinationRows y = with(2);
        requireIs(y, 0, 0);
        requireIs(y, 0, 1);
        due("10: no row at all", y.begin(), -3);
    }

    private static void promise11Next() {
        CombinationRows x = with(2, 2, 2);
        due("11: none under way", x.next(), -1);
        x.begin();
        due("11: no goals", x.next(), -2);
        due("11: nothing taken", x.rows(), 0);
        x.end();
        x.relation(7, 2);
        x.begin();
        due("11: least of equals", x.next(), 0);
        due("11: greatest gain", x.gained(0), 3);
        due("11: 1, 1, 0 gains as much", x.next(), 5);
        due("11: third", x.next(), 17);
        due("11: fourth", x.next(), 20);
        due("11: all covered", x.left(), 0);
        due("11: all covered", x.next(), -2);
        due("11: four rows for pairs", x.rows(), 4);
        checkNegativeNext();
        checkNextAfterSeeds();
    }

    private static void checkNegativeNext() {
        CombinationRows x = with(3, 3);
        x.invalid(0, 0);
        x.relation(3, 1);
        due("11: goals", x.begin(), 2 + 3 + 1);
        due("11: first VALID", x.next(), 1);
        due("11: then VALID", x.next(), 6);
        due("11: VALID for the last value", x.next(), 9);
        due("11: one goal is left", x.left(), 1);
        due("11: then NEGATIVE", x.next(), 0);
        due("11: what a NEGATIVE row gains", x.gained(3), 1);
        due("11: all covered", x.next(), -2);
    }

    private static void checkNextAfterSeeds() {
        CombinationRows x = with(2, 2);
        x.relation(3, 2);
        x.seed(0);
        x.seed(4);
        x.begin();
        due("11: after seeds", x.next(), 1);
        due("11: after seeds", x.next(), 5);
        due("11: all covered", x.next(), -2);
    }

    private static void promise12End() {
        CombinationRows x = with(2, 2);
        x.relation(3, 1);
        due("12: none", x.end(), false);
        x.begin();
        x.next();
        due("12: end", x.end(), true);
        due("12: ended", x.end(), false);
        due("12: rows are gone", x.rows(), 0);
        due("12: row is gone", x.row(0), -1);
        due("12: no gain", x.gain(0), -1);
        due("12: the same again", x.begin(), 4);
        due("12: from the start", x.left(), 4);
        due("12: no row yet", x.row(0), -1);
        due("12: the same row", x.next(), 0);
        due("12: the same gain", x.gained(0), 2);
    }

    private static void promise13To15Rows() {
        CombinationRows x = with(3, 2);
        due("13: none under way", x.rows(), 0);
        due("14: none under way", x.row(0), -1);
        due("15: none under way", x.gained(0), -1);
        x.relation(3, 1);
        x.seed(6);
        x.seed(3);
        x.seed(6);
        x.begin();
        due("13: seeds", x.rows(), 2);
        due("14: seed", x.row(0), 6);
        due("14: seed again", x.row(1), 6);
        due("15: seed", x.gained(0), 2);
        due("15: seed again", x.gained(1), 0);
        due("14: none yet", x.row(2), -1);
        due("15: none yet", x.gained(2), -1);
        x.next();
        x.next();
        due("13: with rows taken", x.rows(), 4);
        due("14: third", x.row(2), 0);
        due("15: third", x.gained(2), 2);
        due("14: fourth", x.row(3), 1);
        due("15: fourth", x.gained(3), 1);
        int[] none = {-1, 4, 519, 520, 5000, Integer.MIN_VALUE, Integer.MAX_VALUE};
        for (int i : none) {
            due("14: row " + i, x.row(i), -1);
            due("15: gained " + i, x.gained(i), -1);
        }
        x.next();
        due("13: a refused one is none", x.rows(), 4);
    }

    private static void promise16Left() {
        CombinationRows x = with(3, 2);
        due("16: none under way", x.left(), -1);
        x.invalid(0, 2);
        x.relation(3, 1);
        x.relation(3, 2);
        x.seed(2);
        due("16: goals", x.begin(), 2 + 2 + 4 + 1 + 2);
        due("16: without what the seed covers", x.left(), 9);
        x.next();
        due("16: one row later", x.left(), 6);
        x.gain(5);
        due("16: asking changes nothing", x.left(), 6);
        x.end();
        due("16: ended", x.left(), -1);
    }

    private static void promise17Gain() {
        CombinationRows x = with(3, 2);
        x.invalid(0, 2);
        x.relation(3, 1);
        x.relation(3, 2);
        exclude(x, 0, 1, 1, 1);
        due("17: none under way", x.gain(0), -1);
        due("17: none under way, no row", x.gain(3), -1);
        x.begin();
        due("17: VALID", x.gain(0), 3);
        due("17: NEGATIVE, those with its invalid value", x.gain(2), 2);
        due("17: neither", x.gain(5), -2);
        int[] none = {3, 8, 16, -1, 4096, Integer.MIN_VALUE, Integer.MAX_VALUE};
        for (int number : none) {
            due("17: no row " + number, x.gain(number), -2);
        }
        due("17: 0 is taken", x.next(), 0);
        due("17: a row taken", x.gain(0), 0);
        due("17: shares one value", x.gain(1), 2);
        due("17: NEGATIVE is as before", x.gain(2), 2);
        due("17: NEGATIVE is as before", x.gain(6), 2);
        x.next();
        x.next();
        due("17: the first NEGATIVE", x.next(), 2);
        due("17: only the pair is left", x.gain(6), 1);
    }

    private static void promise18Kind() {
        CombinationRows x = new CombinationRows();
        due("18: no parameter", x.kind(0), -1);
        x.parameter(3);
        x.parameter(2);
        x.invalid(0, 2);
        x.invalid(1, 0);
        exclude(x, 0, 1, 1, 1);
        for (int pass = 0; pass < 2; pass++) {
            due("18: VALID", x.kind(4), 2);
            due("18: one invalid value", x.kind(0), 1);
            due("18: two invalid values", x.kind(2), 0);
            due("18: against a rule", x.kind(5), 0);
            due("18: NEGATIVE by the other", x.kind(6), 1);
            int[] none = {3, 7, 8, 12, 16, 20, -1, 4096, 4100, Integer.MIN_VALUE, Integer.MAX_VALUE};
            for (int number : none) {
                due("18: no row " + number, x.kind(number), -1);
            }
            x.begin();
        }
        due("18: was under way", x.end(), true);
        CombinationRows six = with(4, 4, 4, 4, 4, 4);
        due("18: the last row", six.kind(4095), 2);
        due("18: beyond the last row", six.kind(4096), -1);
    }

    private static void promise19Extendable() {
        CombinationRows x = new CombinationRows();
        due("19: no parameter", x.extendable(0), -1);
        due("19: no parameter", x.extendable(7), -1);
        x.parameter(3);
        x.parameter(4);
        x.invalid(0, 2);
        x.invalid(1, 3);
        exclude(x, 0, 0, 1, 0);
        exclude(x, 0, 2, 1, 1);
        for (int pass = 0; pass < 2; pass++) {
            due("19: any", x.extendable(7 | 7 << 3), 2);
            due("19: 0, any", x.extendable(7 << 3), 2);
            due("19: any, 0", x.extendable(7), 2);
            due("19: 0, 0", x.extendable(0), 0);
            due("19: 1, 0", x.extendable(1), 2);
            due("19: 2, any", x.extendable(2 | 7 << 3), 1);
            due("19: 2, 1", x.extendable(2 | 1 << 3), 0);
            due("19: 2, 0", x.extendable(2), 1);
            due("19: 2, 3", x.extendable(2 | 3 << 3), 0);
            due("19: any, 3", x.extendable(7 | 3 << 3), 1);
            int[] refused = {3, 4, 5, 6, 3 | 7 << 3, 4 << 3, 5 << 3, 6 << 3, 64, 128, 512, 511,
                1 << 30, -1, Integer.MIN_VALUE, Integer.MIN_VALUE | 7};
            for (int partial : refused) {
                due("19: partial " + partial, x.extendable(partial), -1);
            }
            x.begin();
        }
        due("19: was under way", x.end(), true);
        CombinationRows six = with(4, 4, 4, 4, 4, 4);
        due("19: 18 bits", six.extendable((1 << 18) - 1), 2);
        due("19: a bit more", six.extendable(1 << 18), -1);
        requireIs(six, 5, 3);
        due("19: the last parameter", six.extendable(3 << 15 | 7), 2);
        due("19: the last parameter", six.extendable(2 << 15 | 7), 0);
        due("19: wrong before none", six.extendable(2 << 15 | 4), -1);
    }

    private static void promise20Forbidden() {
        int[] refused = {0, 4, -1, Integer.MIN_VALUE, Integer.MAX_VALUE};
        CombinationRows x = new CombinationRows();
        for (int size : refused) {
            due("20: size " + size, x.forbidden(size), -1);
        }
        for (int size = 1; size <= 3; size++) {
            due("20: no parameter", x.forbidden(size), 0);
        }
        x = with(3, 3, 3);
        exclude(x, 0, 0, 1, 0);
        exclude(x, 1, 1, 2, 1);
        due("20: no single ones", x.forbidden(1), 0);
        due("20: the two pairs", x.forbidden(2), 2);
        due("20: no triple is minimal", x.forbidden(3), 0);
        x.is(0, 1);
        x.is(1, 2);
        x.join(0);
        x.is(2, 2);
        x.join(0);
        x.not();
        x.require();
        due("20: a triple", x.forbidden(3), 1);
        x.invalid(2, 2);
        due("20: not with an invalid value", x.forbidden(3), 0);
        x.begin();
        due("20: under way", x.forbidden(2), 2);
        due("20: under way, wrong", x.forbidden(4), -1);
        x.end();
        requireIs(x, 0, 2);
        due("20: two single ones", x.forbidden(1), 2);
        due("20: the pair left", x.forbidden(2), 1);
        checkForbiddenByOthers();
    }

    /** Pairs that only follow from rules together, and the edge of no VALID row. */
    private static void checkForbiddenByOthers() {
        CombinationRows x = with(2, 2, 2);
        exclude(x, 0, 0, 1, 0);
        exclude(x, 1, 1, 2, 1);
        due("20: 0 and 2 too", x.forbidden(2), 3);
        x.invalid(1, 0);
        due("20: what only an invalid value allows", x.forbidden(1), 1);
        due("20: no pair is minimal then", x.forbidden(2), 0);
        x.invalid(1, 1);
        for (int size = 1; size <= 3; size++) {
            due("20: no VALID row", x.forbidden(size), 0);
        }
    }

    /**
     * What is answered after the 512th call is free, but LANGUAGE.md lets no call throw: rows with at
     * most three values other than 0 need 540 rows, more than there is room for.
     */
    private static void moreThan512Calls() {
        CombinationRows x = with(4, 4, 4, 4, 4, 4);
        int joined = 0;
        for (int set = 0; set < 64; set++) {
            if (Integer.bitCount(set) == 4) {
                putSomeZero(x, set);
                joined++;
                if (joined % 2 == 0) {
                    x.join(0);
                    due("512: rule", x.require(), joined / 2);
                }
            }
        }
        due("512: rule", x.require(), 8);
        x.relation(63, 3);
        due("512: goals", x.begin(), 1280);
        for (int i = 0; i < 3000; i++) {
            x.next();
            x.row(i);
            x.gained(i);
        }
        x.end();
        x.begin();
    }

    private static void putSomeZero(CombinationRows x, int set) {
        int put = 0;
        for (int p = 0; p < 6; p++) {
            if ((set >> p & 1) != 0) {
                x.is(p, 0);
                put++;
                if (put > 1) {
                    x.join(1);
                }
            }
        }
    }

    public static void main(String[] args) {
        promise1NewObject();
        promise2Parameter();
        promise3Invalid();
        promise4Relation();
        promise5Is();
        promise6Not();
        promise7Join();
        promise8Require();
        promise9Seed();
        promise10Begin();
        promise11Next();
        promise12End();
        promise13To15Rows();
        promise16Left();
        promise17Gain();
        promise18Kind();
        promise19Extendable();
        promise20Forbidden();
        moreThan512Calls();
        System.out.println(wrong == 0 ? "all promises hold" : wrong + " answers are not as due");
        System.exit(wrong == 0 ? 0 : 1);
    }
}
