import java.util.Set;
import java.util.TreeSet;

/**
 * Each sentence of the document that names a boundary: the bound itself and both sides of it, the
 * empty and the full state, refusals that hold at once, and that a refused call changes nothing.
 * No object is used for more than the 512 calls that the document speaks of.
 */
public final class BoundaryTest {
    private static final int MIN = Integer.MIN_VALUE;
    private static final int MAX = Integer.MAX_VALUE;
    private static final int AND = 0;
    private static final int OR = 1;
    private static final int IMPLIES = 2;
    private static final int CALLS = 512;
    private static final int SHOWN = 400;

    private static int wrong = 0;
    private static int checked = 0;

    private static void complain(String what) {
        wrong++;
        System.out.println(what);
    }

    /** An object with all its calls and answers written down; each call is made on the object itself. */
    private static final class Run {
        private final CombinationRows rows = new CombinationRows();
        private final StringBuilder calls = new StringBuilder();
        private int made = 0;
        private long last = 0;

        private Run answered(String call, long answer) {
            made++;
            last = answer;
            calls.append(call).append(" -> ").append(answer).append("; ");
            if (made == CALLS + 1) {
                complain("a test uses an object for more than " + CALLS + " calls");
            }
            return this;
        }

        private Run answered(String call, boolean answer) {
            return answered(call, answer ? 1L : 0L);
        }

        private String latest() {
            return calls.length() > SHOWN ? ".. " + calls.substring(calls.length() - SHOWN) : calls.toString();
        }

        Run due(long want) {
            checked++;
            if (last != want) {
                complain(latest() + "due is " + want);
            }
            return this;
        }

        Run due(boolean want) {
            return due(want ? 1L : 0L);
        }

        Run parameter(int values) {
            return answered("parameter(" + values + ")", rows.parameter(values));
        }

        Run invalid(int p, int v) {
            return answered("invalid(" + p + ", " + v + ")", rows.invalid(p, v));
        }

        Run relation(int set, int strength) {
            return answered("relation(" + set + ", " + strength + ")", rows.relation(set, strength));
        }

        Run is(int p, int v) {
            return answered("is(" + p + ", " + v + ")", rows.is(p, v));
        }

        Run not() {
            return answered("not()", rows.not());
        }

        Run join(int op) {
            return answered("join(" + op + ")", rows.join(op));
        }

        Run require() {
            return answered("require()", rows.require());
        }

        Run seed(int number) {
            return answered("seed(" + number + ")", rows.seed(number));
        }

        Run begin() {
            return answered("begin()", rows.begin());
        }

        Run next() {
            return answered("next()", rows.next());
        }

        Run end() {
            return answered("end()", rows.end());
        }

        Run rows() {
            return answered("rows()", rows.rows());
        }

        Run row(int i) {
            return answered("row(" + i + ")", rows.row(i));
        }

        Run gained(int i) {
            return answered("gained(" + i + ")", rows.gained(i));
        }

        Run left() {
            return answered("left()", rows.left());
        }

        Run gain(int number) {
            return answered("gain(" + number + ")", rows.gain(number));
        }

        Run kind(int number) {
            return answered("kind(" + number + ")", rows.kind(number));
        }

        Run extendable(int partial) {
            return answered("extendable(" + partial + ")", rows.extendable(partial));
        }

        Run forbidden(int size) {
            return answered("forbidden(" + size + ")", rows.forbidden(size));
        }

        /** NOT seven times or fewer, until the uppermost term has this depth. */
        Run deepen(int from, int to) {
            for (int depth = from; depth < to; depth++) {
                not();
            }
            return this;
        }

        /** Ends a generation, but makes no call that is refused. */
        Run endIfUnderWay() {
            return left().last >= 0 ? end() : this;
        }

        Run exclude(int p, int v, int q, int w) {
            return is(p, v).is(q, w).join(AND).not().require();
        }
    }

    private interface Calls {
        void on(Run x);
    }

    private static Run with(int... values) {
        Run x = new Run();
        for (int count : values) {
            x.parameter(count);
        }
        return x;
    }

    /** What is not in least .. greatest: next to it, far off, and one bit away, as in a wrap-around. */
    private static int[] outside(int least, int greatest) {
        Set<Integer> found = new TreeSet<>();
        int[] inside = {least, greatest};
        for (int x : inside) {
            for (int bit = 0; bit < 32; bit++) {
                found.add(x ^ 1 << bit);
            }
        }
        int[] more = {least - 1, greatest + 1, -greatest, -greatest - 1, MIN, MIN + 1, MAX - 1, MAX};
        for (int x : more) {
            found.add(x);
        }
        return found.stream().mapToInt(x -> x).filter(x -> x < least || x > greatest).toArray();
    }

    // What later calls can see of a state. Each of these is made on an object of its own.

    private static final int[] SOME_NUMBERS = {0, 1, 2, 3, 4, 5, 6, 8, 9, 12, 16, 17, 20, 21, 22, 32, 36,
        48, 63, 64, 65, 85, 256, 341, 1024, 1365, 2730, 4095};
    private static final int[] SOME_PARTIALS = {0, 1, 2, 7, 63, 511, 4095, 32767, (1 << 18) - 1, 7 << 3,
        2 | 7 << 3, 1 | 7 << 3, 7 | 1 << 3, 2 | 63 << 3, 1 | 63 << 3, 2 | 511 << 3, 63 | 3 << 6,
        2 | (1 << 15) - 1 << 3};

    private static void watchGeneration(Run x) {
        long taken = x.rows().last;
        for (int i = -1; i <= taken && i < 20; i++) {
            x.row(i).gained(i);
        }
        x.left();
        for (int number : SOME_NUMBERS) {
            x.gain(number);
        }
        for (int i = 0; i < 8; i++) {
            x.next().left();
        }
        x.rows().endIfUnderWay();
    }

    private static void watchRows(Run x) {
        for (int number : SOME_NUMBERS) {
            x.kind(number);
        }
        for (int partial : SOME_PARTIALS) {
            x.extendable(partial);
        }
        x.forbidden(1).forbidden(2).forbidden(3).endIfUnderWay();
    }

    private static void watchNewGeneration(Run x) {
        x.endIfUnderWay().begin().left();
        long taken = x.rows().last;
        for (int i = 0; i < taken; i++) {
            x.row(i).gained(i);
        }
        for (int i = 0; i < 40 && x.next().last >= 0; i++) {
            x.left();
        }
    }

    private static void watchStack(Run x) {
        x.endIfUnderWay();
        for (int i = 0; i < 9 && x.require().last >= 0; i++) {
            for (int number : SOME_NUMBERS) {
                x.kind(number);
            }
        }
    }

    private static void watchDepths(Run x) {
        x.endIfUnderWay();
        for (int i = 0; i < 9; i++) {
            for (int depth = 0; depth < 9 && x.not().last > 0; depth++) {
                continue;
            }
            x.require();
        }
    }

    private static void watchJoins(Run x) {
        x.endIfUnderWay();
        for (int i = 0; i < 8; i++) {
            x.join(i % 3);
        }
        for (int depth = 0; depth < 9 && x.not().last > 0; depth++) {
            continue;
        }
        x.require();
        watchRows(x);
    }

    private static void watchCounts(Run x) {
        x.endIfUnderWay();
        for (int i = 0; i < 9; i++) {
            x.relation(1, 1).seed(1).parameter(2).is(0, 0);
        }
        watchNewGeneration(x);
    }

    private static void watchInvalid(Run x) {
        x.endIfUnderWay();
        for (int p = -1; p <= 6; p++) {
            for (int v = -1; v <= 4; v++) {
                x.invalid(p, v);
            }
        }
    }

    private static final Calls[] WATCHES = {BoundaryTest::watchGeneration, BoundaryTest::watchRows,
        BoundaryTest::watchNewGeneration, BoundaryTest::watchStack, BoundaryTest::watchDepths,
        BoundaryTest::watchJoins, BoundaryTest::watchCounts, BoundaryTest::watchInvalid};

    private static String answersTo(Calls watch, Run x) {
        int start = x.calls.length();
        watch.on(x);
        return x.calls.substring(start);
    }

    /** All later calls answer as if the refused ones, which check their answers, had not been made. */
    private static void refused(Calls before, Calls refused) {
        for (Calls watch : WATCHES) {
            Run without = new Run();
            before.on(without);
            Run with = new Run();
            before.on(with);
            refused.on(with);
            String calls = with.latest();
            String want = answersTo(watch, without);
            String got = answersTo(watch, with);
            checked++;
            if (!got.equals(want)) {
                complain(calls + "\n  later: " + got + "\n  without the refused calls: " + want);
            }
        }
    }

    // States in which calls are refused.

    private static void nothing(Run x) {
    }

    /** Two terms on the stack, of depth 2 and 1, and something of all else. */
    private static void some(Run x) {
        x.parameter(3).parameter(2).parameter(4).invalid(0, 2).invalid(2, 3);
        x.relation(7, 2).relation(5, 1);
        x.exclude(0, 1, 1, 1);
        x.seed(2).seed(5).seed(16);
        x.is(2, 0).not().is(1, 0);
    }

    private static void someUnderWay(Run x) {
        some(x);
        x.begin().next().next();
    }

    /** Six parameters, eight relations, eight rules, eight terms, eight seeds. */
    private static void full(Run x) {
        for (int i = 0; i < 6; i++) {
            x.parameter(4).due(i);
        }
        for (int i = 0; i < 8; i++) {
            x.is(i % 6, i / 6 + 2).due(true).not().require().due(i + 1);
        }
        for (int i = 1; i <= 8; i++) {
            x.relation(i * 7, 1 + i % 2).due(i).seed(i * 21).due(i).is(i % 3, i % 2).due(true);
        }
        x.invalid(5, 0).due(true);
    }

    /** Eight terms, the uppermost one of depth 3, and room for as many rules. */
    private static void fullStack(Run x) {
        x.parameter(4).parameter(4);
        for (int i = 0; i < 8; i++) {
            x.is(i % 2, i / 2).due(true).not();
        }
        x.not();
    }

    private static void fullUnderWay(Run x) {
        full(x);
        x.begin().next().next();
    }

    private static void allCovered(Run x) {
        x.parameter(2).parameter(2).relation(3, 1).is(0, 0).begin().next().next().left().due(0);
    }

    private static void noGoals(Run x) {
        x.parameter(2).parameter(3).begin().due(0);
    }

    private static void noValidRow(Run x) {
        x.parameter(2).parameter(3).relation(3, 2).seed(4).invalid(0, 0).invalid(0, 1);
        x.kind(4).due(1);
    }

    private static void termOfDepth8(Run x) {
        x.parameter(3).parameter(3).is(0, 1).is(1, 1).deepen(1, 8);
    }

    // Promise 1: "No parameters, relations, terms, rules, seeds; no generation."

    private static void newObject() {
        new Run().parameter(2).due(0);
        new Run().invalid(0, 0).due(false);
        new Run().relation(1, 1).due(-2);
        new Run().is(0, 0).due(false);
        new Run().not().due(false);
        new Run().join(AND).due(false);
        new Run().require().due(-2);
        new Run().seed(0).due(1);
        new Run().begin().due(-2);
        new Run().next().due(-1);
        new Run().end().due(false);
        new Run().rows().due(0);
        new Run().row(0).due(-1);
        new Run().gained(0).due(-1);
        new Run().left().due(-1);
        new Run().gain(0).due(-1);
        new Run().kind(0).due(-1);
        new Run().extendable(0).due(-1);
        new Run().parameter(2).relation(1, 1).due(1);
        new Run().parameter(2).is(0, 0).require().due(1);
        new Run().parameter(2).not().due(false).is(0, 0).join(AND).due(false);
        new Run().parameter(2).begin().due(0).rows().due(0);
        new Run().parameter(4).kind(0).due(2).kind(3).due(2);
        refused(BoundaryTest::nothing, x -> {
            x.invalid(0, 0).relation(1, 1).is(0, 0).not().join(AND).require();
            x.begin().next().end().row(0).gained(0).left().gain(0).kind(0).extendable(0).forbidden(0);
            x.parameter(1).parameter(5);
        });
    }

    /** What is done to one object is not seen in another. */
    private static void objectsAreApart() {
        for (Calls watch : WATCHES) {
            Run alone = new Run();
            String want = answersTo(watch, alone);
            Run beside = new Run();
            Run other = new Run();
            fullUnderWay(other);
            checked++;
            if (!answersTo(watch, beside).equals(want)) {
                complain("a new object is not as new when another one is full: " + beside.latest());
            }
        }
    }

    // Promise 2: "-1 when a generation is under way, -2 when values is not 2 .. 4 or there are six."

    private static void parameter() {
        Calls wrongValues = x -> {
            for (int values : outside(2, 4)) {
                x.parameter(values).due(-2);
            }
        };
        refused(BoundaryTest::nothing, wrongValues);
        refused(BoundaryTest::some, wrongValues);
        for (int values = 2; values <= 4; values++) {
            new Run().parameter(values).due(0).kind(values - 1).due(2).kind(values).due(-1);
        }
        for (int count = 0; count < 6; count++) {
            Run x = new Run();
            for (int p = 0; p < count; p++) {
                x.parameter(2 + p % 3).due(p);
            }
            x.parameter(4).due(count).kind(3 << 2 * count).due(2).kind(1 << 2 * count + 2).due(-1);
        }
        refused(BoundaryTest::full, x -> {
            x.parameter(2).due(-2).parameter(3).due(-2).parameter(4).due(-2);
            wrongValues.on(x);
        });
        Calls underWay = x -> {
            x.parameter(2).due(-1).parameter(3).due(-1).parameter(4).due(-1);
            for (int values : outside(2, 4)) {
                x.parameter(values).due(-1);
            }
        };
        refused(BoundaryTest::someUnderWay, underWay);
        refused(BoundaryTest::fullUnderWay, underWay);
        refused(BoundaryTest::allCovered, underWay);
        refused(BoundaryTest::noGoals, underWay);
        Run x = new Run();
        some(x);
        x.begin().end().parameter(2).due(3);
        parametersMadeLater();
    }

    /** What was said of the first parameters holds on when the others are made. */
    private static void parametersMadeLater() {
        Run x = with(3).invalid(0, 2).relation(1, 1).is(0, 0).not().require().due(1).is(0, 1);
        for (int p = 1; p < 6; p++) {
            int last = 1 << 2 * p;
            x.parameter(2).due(p).kind(last).due(0).kind(last + 1).due(2).kind(last + 2).due(1);
            x.begin().due(2).end().due(true);
        }
        x.require().due(2).kind(1).due(2).kind(2).due(0).begin().due(1).next().due(1).next().due(-2);
    }

    // Promise 3: "false when a generation is under way, there is no parameter p, it has no value v,
    // or that is invalid already."

    private static void invalid() {
        refused(BoundaryTest::nothing, x -> x.invalid(0, 0).due(false).invalid(0, 1).due(false)
                .invalid(-1, 0).due(false).invalid(5, 0).due(false).invalid(MIN, MIN).due(false));
        for (int count = 1; count <= 6; count++) {
            noParameter(count, (x, p) -> x.invalid(p, 0).due(false).invalid(p, 1).due(false));
            Run x = with(2, 3, 4, 2, 3, 4);
            x.invalid(count - 1, 1).due(true).invalid(count - 1, 0).due(true);
        }
        for (int values = 2; values <= 4; values++) {
            noValue(values, (x, v) -> x.invalid(1, v).due(false));
            Run x = with(2, values, 4);
            for (int v = 0; v < values; v++) {
                x.invalid(1, v).due(true).kind(v << 2).due(1).invalid(1, v).due(false);
            }
        }
        refused(BoundaryTest::some, x -> x.invalid(0, 2).due(false).invalid(2, 3).due(false));
        Calls underWay = x -> x.invalid(0, 0).due(false).invalid(0, 2).due(false).invalid(2, 3).due(false)
                .invalid(2, 0).due(false).invalid(1, 1).due(false).invalid(-1, 0).due(false)
                .invalid(0, 3).due(false).invalid(MAX, MIN).due(false);
        refused(BoundaryTest::someUnderWay, underWay);
        refused(BoundaryTest::fullUnderWay, underWay);
        refused(BoundaryTest::allCovered, underWay);
        allInvalid();
        refused(BoundaryTest::allInvalid, x -> {
            for (int i = 0; i < 24; i++) {
                x.invalid(i / 4, i % 4).due(false);
            }
        });
    }

    private interface CallWith {
        void on(Run x, int number);
    }

    private static void noParameter(int count, CallWith call) {
        refused(x -> {
            for (int p = 0; p < count; p++) {
                x.parameter(2 + p % 3);
            }
        }, x -> {
            for (int p : outside(0, count - 1)) {
                call.on(x, p);
            }
        });
    }

    private static void noValue(int values, CallWith call) {
        refused(x -> x.parameter(2).parameter(values).parameter(4), x -> {
            for (int v : outside(0, values - 1)) {
                call.on(x, v);
            }
        });
    }

    private static void allInvalid() {
        allInvalid(new Run());
    }

    private static void allInvalid(Run x) {
        for (int p = 0; p < 6; p++) {
            x.parameter(4);
        }
        for (int i = 0; i < 24; i++) {
            x.invalid(i / 4, i % 4).due(true);
        }
        x.kind(0).due(0).begin().due(-3);
    }

    // Promise 4: "-1 when a generation is under way, -2 when set is no set of parameters (0 is none),
    // strength is not 1 .. 3, or the set has fewer parameters than that, -3 when there are eight."

    private static void relation() {
        refused(BoundaryTest::nothing, x -> {
            for (int set = -1; set <= 64; set++) {
                x.relation(set, 1).due(-2);
            }
        });
        for (int count = 1; count <= 6; count++) {
            noSet(count);
            Run x = with(4, 4, 4, 4, 4, 4);
            x.relation(1 << count - 1, 1).due(1).relation(63, 1).due(2).relation((1 << count) - 1, 1).due(3);
        }
        refused(BoundaryTest::some, x -> {
            for (int strength : outside(1, 3)) {
                x.relation(7, strength).due(-2);
            }
        });
        fewerThanStrength();
        Run x = with(2, 2, 2);
        for (int i = 1; i <= 8; i++) {
            x.relation(7, 1 + i % 3).due(i);
        }
        Calls ninth = y -> y.relation(63, 3).due(-3).relation(1, 1).due(-3).relation(7, 1).due(-3);
        refused(BoundaryTest::full, ninth);
        refused(BoundaryTest::full, BoundaryTest::wrongRelations);
        Calls underWay = y -> y.relation(1, 1).due(-1).relation(7, 3).due(-1).relation(0, 1).due(-1)
                .relation(MIN, 1).due(-1).relation(7, 0).due(-1).relation(7, 4).due(-1).relation(1, 2).due(-1);
        refused(BoundaryTest::someUnderWay, underWay);
        refused(BoundaryTest::fullUnderWay, underWay);
        refused(BoundaryTest::noGoals, underWay);
    }

    private static void wrongRelations(Run x) {
        x.relation(0, 1).due(-2).relation(64, 1).due(-2).relation(65, 1).due(-2).relation(-1, 1).due(-2);
        x.relation(MIN, 1).due(-2).relation(MIN + 1, 1).due(-2).relation(MAX, 1).due(-2);
        x.relation(63, 0).due(-2).relation(63, 4).due(-2).relation(63, -1).due(-2).relation(63, MIN).due(-2);
        x.relation(63, MAX).due(-2).relation(1, 2).due(-2).relation(3, 3).due(-2).relation(32, 3).due(-2);
        x.relation(0, 0).due(-2).relation(64, 4).due(-2);
    }

    private static void noSet(int count) {
        refused(x -> {
            for (int p = 0; p < count; p++) {
                x.parameter(2);
            }
        }, x -> {
            for (int set : outside(1, (1 << count) - 1)) {
                x.relation(set, 1).due(-2);
            }
        });
    }

    private static void fewerThanStrength() {
        for (int set = 1; set < 64; set++) {
            int size = Integer.bitCount(set);
            Run x = with(2, 2, 2, 2, 2, 2);
            int made = 0;
            for (int strength = 0; strength <= 4; strength++) {
                boolean isRight = strength >= 1 && strength <= 3 && strength <= size;
                made += isRight ? 1 : 0;
                x.relation(set, strength).due(isRight ? made : -2);
            }
            int triples = size * (size - 1) * (size - 2) / 6;
            x.begin().due(2 * size + 4 * (size * (size - 1) / 2) + 8 * triples);
        }
        refused(BoundaryTest::some, x -> x.relation(1, 2).due(-2).relation(4, 3).due(-2)
                .relation(3, 3).due(-2).relation(5, 3).due(-2).relation(6, 3).due(-2));
    }

    // Promise 5: "false when a generation is under way, there is no parameter p, it has no value v,
    // or eight terms are on the stack."

    private static void is() {
        refused(BoundaryTest::nothing, x -> x.is(0, 0).due(false).is(0, 1).due(false)
                .is(-1, 0).due(false).is(5, 0).due(false).is(MIN, MAX).due(false));
        for (int count = 1; count <= 6; count++) {
            noParameter(count, (x, p) -> x.is(p, 0).due(false).is(p, 1).due(false));
            with(2, 3, 4, 2, 3, 4).is(count - 1, 1).due(true).require().due(1)
                    .kind(1 << 2 * count - 2).due(2).kind(0).due(0);
        }
        for (int values = 2; values <= 4; values++) {
            noValue(values, (x, v) -> x.is(1, v).due(false));
            for (int v = 0; v < values; v++) {
                with(2, values, 4).is(1, v).due(true).require().due(1)
                        .kind(v << 2).due(2).kind((v + 1) % values << 2).due(0);
            }
        }
        Run x = with(2, 3);
        for (int i = 0; i < 8; i++) {
            x.is(1, i % 3).due(true);
        }
        x.is(0, 0).due(false).join(OR).due(true).is(0, 0).due(true).is(0, 0).due(false);
        x.require().due(1).is(0, 0).due(true).is(0, 0).due(false);
        refused(BoundaryTest::fullStack, y -> y.is(0, 0).due(false).is(1, 2).due(false).is(2, 0).due(false));
        refused(BoundaryTest::full, y -> y.is(0, 0).due(false).is(5, 3).due(false)
                .is(6, 0).due(false).is(0, 4).due(false).is(-1, -1).due(false));
        Calls underWay = y -> y.is(0, 0).due(false).is(1, 1).due(false).is(3, 0).due(false)
                .is(0, 3).due(false).is(MIN, 0).due(false).is(0, MIN).due(false);
        refused(BoundaryTest::someUnderWay, underWay);
        refused(BoundaryTest::fullUnderWay, underWay);
        refused(BoundaryTest::noGoals, underWay);
    }

    // Promise 6: "false when a generation is under way, the stack is empty, or the depth would be
    // more than 8."

    private static void not() {
        refused(BoundaryTest::nothing, x -> x.not().due(false));
        refused(x -> x.parameter(2).parameter(2).relation(3, 2), x -> x.not().due(false));
        refused(x -> x.parameter(2).is(0, 0).require(), x -> x.not().due(false));
        Run x = with(2, 2).is(0, 0);
        for (int depth = 2; depth <= 8; depth++) {
            x.not().due(true);
        }
        x.not().due(false).require().due(1).kind(0).due(0).kind(1).due(2);
        refused(BoundaryTest::termOfDepth8, y -> y.not().due(false).not().due(false));
        for (int depth = 2; depth <= 8; depth++) {
            notAboveJoin(depth);
        }
        Calls underWay = y -> y.not().due(false);
        refused(BoundaryTest::someUnderWay, underWay);
        refused(BoundaryTest::fullUnderWay, underWay);
        refused(BoundaryTest::noGoals, underWay);
        refused(y -> {
            termOfDepth8(y);
            y.begin();
        }, underWay);
    }

    /** The depth of a join counts on from the deeper one of its terms, whichever that is. */
    private static void notAboveJoin(int depth) {
        Run below = with(2, 2).is(0, 0).deepen(1, depth - 1).is(1, 0).join(OR).due(true);
        Run above = with(2, 2).is(1, 0).is(0, 0).deepen(1, depth - 1).join(IMPLIES).due(true);
        Run both = with(2, 2).is(1, 0).deepen(1, depth - 1).is(0, 0).deepen(1, depth - 1).join(AND).due(true);
        Run[] all = {below, above, both};
        for (Run x : all) {
            for (int i = depth; i < 8; i++) {
                x.not().due(true);
            }
            x.not().due(false).require().due(1);
        }
    }

    // Promise 7: "false when a generation is under way, op is not 0 .. 2, fewer than two terms are on
    // the stack, or the depth would be more than 8."

    private static void join() {
        Calls allOps = x -> {
            for (int op = -1; op <= 3; op++) {
                x.join(op).due(false);
            }
        };
        refused(BoundaryTest::nothing, allOps);
        refused(x -> x.parameter(2).parameter(2), allOps);
        refused(x -> x.parameter(2).parameter(2).is(0, 1), allOps);
        refused(x -> x.parameter(2).parameter(2).is(0, 1).is(1, 0).require(), allOps);
        refused(BoundaryTest::some, x -> {
            for (int op : outside(0, 2)) {
                x.join(op).due(false);
            }
        });
        for (int op = 0; op <= 2; op++) {
            with(2, 2).is(0, 1).is(1, 1).join(op).due(true).join(op).due(false)
                    .require().due(1).require().due(-2);
        }
        joinEight();
        depthOfJoin();
        refused(BoundaryTest::termOfDepth8, allOps);
        refused(x -> x.parameter(3).parameter(3).is(0, 1).deepen(1, 8).is(1, 1), allOps);
        refused(x -> x.parameter(3).parameter(3).is(0, 1).deepen(1, 8).is(1, 1).deepen(1, 8), allOps);
        refused(BoundaryTest::someUnderWay, allOps);
        refused(BoundaryTest::fullUnderWay, allOps);
        refused(BoundaryTest::noGoals, allOps);
    }

    /** Seven joins of eight terms, each deeper by one, reach depth 8; in pairs they reach depth 4. */
    private static void joinEight() {
        Run x = with(2, 2);
        for (int i = 0; i < 8; i++) {
            x.is(i % 2, 1).due(true);
        }
        for (int i = 0; i < 7; i++) {
            x.join(AND).due(true);
        }
        x.join(AND).due(false).not().due(false).require().due(1).kind(5).due(2).kind(1).due(0).kind(4).due(0);
        Run y = with(2, 2);
        for (int i = 0; i < 4; i++) {
            y.is(0, 0).is(1, 0).join(OR).due(true);
            if (i % 2 == 1) {
                y.join(AND).due(true);
            }
        }
        y.join(AND).due(true).deepen(4, 8).due(true).not().due(false).require().due(1);
        y.kind(0).due(2).kind(1).due(2).kind(4).due(2).kind(5).due(0);
    }

    private static void depthOfJoin() {
        for (int op = 0; op <= 2; op++) {
            with(2, 2).is(0, 0).deepen(1, 7).is(1, 0).join(op).due(true);
            with(2, 2).is(0, 0).is(1, 0).deepen(1, 7).join(op).due(true);
            with(2, 2).is(0, 0).deepen(1, 7).is(1, 0).deepen(1, 7).join(op).due(true);
            with(2, 2).is(0, 0).deepen(1, 8).is(1, 0).join(op).due(false);
            with(2, 2).is(0, 0).is(1, 0).deepen(1, 8).join(op).due(false);
            with(2, 2).is(0, 0).deepen(1, 8).is(1, 0).deepen(1, 8).join(op).due(false);
        }
    }

    // Promise 8: "-1 when a generation is under way, -2 when the stack is empty, -3 when there are eight."

    private static void require() {
        refused(BoundaryTest::nothing, x -> x.require().due(-2));
        refused(x -> x.parameter(2).parameter(2), x -> x.require().due(-2));
        refused(x -> x.parameter(2).is(0, 0).require(), x -> x.require().due(-2));
        Run x = with(2, 2);
        for (int i = 1; i <= 8; i++) {
            x.is(0, 1).require().due(i);
        }
        x.require().due(-2).is(1, 1).require().due(-3).kind(1).due(2).require().due(-3);
        refused(BoundaryTest::full, y -> y.require().due(-3).require().due(-3));
        Calls eightRules = y -> {
            y.parameter(3).parameter(3);
            for (int i = 1; i <= 8; i++) {
                y.is(i % 2, 2).not().require();
            }
        };
        refused(eightRules, y -> y.require().due(-2));
        Calls underWay = y -> y.require().due(-1);
        refused(BoundaryTest::someUnderWay, underWay);
        refused(BoundaryTest::fullUnderWay, underWay);
        refused(BoundaryTest::noGoals, underWay);
        refused(y -> {
            eightRules.on(y);
            y.begin().due(0);
        }, underWay);
        Run deep = new Run();
        termOfDepth8(deep);
        deep.require().due(1).kind(0).due(2).kind(4).due(0).require().due(2).kind(0).due(0).kind(1).due(2);
    }

    // Promise 9: "-1 when a generation is under way, -2 when there are eight."

    private static void seed() {
        int[] any = {MIN, -4096, -1, 0, 15, 16, 4096, MAX};
        Run x = new Run();
        for (int i = 0; i < 8; i++) {
            x.seed(any[i]).due(i + 1);
        }
        x.seed(0).due(-2).parameter(4).begin().due(0).rows().due(1).row(0).due(0).row(1).due(-1);
        Calls numbers = y -> {
            for (int number : any) {
                y.seed(number).due(-2);
            }
        };
        refused(BoundaryTest::full, numbers);
        refused(y -> {
            for (int i = 0; i < 8; i++) {
                y.seed(i);
            }
        }, numbers);
        Calls underWay = y -> {
            for (int number : any) {
                y.seed(number).due(-1);
            }
        };
        refused(BoundaryTest::someUnderWay, underWay);
        refused(BoundaryTest::fullUnderWay, underWay);
        refused(BoundaryTest::noGoals, underWay);
        seedsThatAreRows();
        seedsInTime();
    }

    /** Only the numbers of VALID and NEGATIVE rows are taken, at the edges of what is a number of a row. */
    private static void seedsThatAreRows() {
        for (int number : outside(0, 4095)) {
            with(4, 4, 4, 4, 4, 4).seed(number).due(1).begin().due(0).rows().due(0).row(0).due(-1);
        }
        with(4, 4, 4, 4, 4, 4).seed(4095).seed(0).begin().due(0).rows().due(2).row(0).due(4095).row(1).due(0);
        Run x = with(3, 2).invalid(0, 2).invalid(1, 1).relation(3, 1).exclude(0, 1, 1, 0);
        x.seed(6).due(1).seed(1).due(2).seed(3).due(3).seed(8).due(4).seed(2).due(5).seed(0).due(6);
        x.seed(5).due(7).seed(4).due(8).seed(16).due(-2);
        x.begin().due(2 + 2).rows().due(4);
        x.row(0).due(2).gained(0).due(1).row(1).due(0).gained(1).due(2);
        x.row(2).due(5).gained(2).due(1).row(3).due(4).gained(3).due(0).row(4).due(-1).left().due(0);
    }

    /** Whether a seed is a row is seen at each begin anew, not when it is given. */
    private static void seedsInTime() {
        Run x = new Run().seed(5).seed(1).parameter(2);
        x.begin().due(0).rows().due(1).row(0).due(1).end().due(true);
        x.parameter(2).begin().due(0).rows().due(2).row(0).due(5).row(1).due(1).end();
        x.exclude(0, 1, 1, 1).begin().due(0).rows().due(1).row(0).due(1).end();
        x.invalid(0, 1).begin().due(0).rows().due(1).row(0).due(1).end();
        x.invalid(1, 0).begin().due(0).rows().due(0).row(0).due(-1);
    }

    // Promise 10: "-1 when one is under way, -2 when there is no parameter, -3 when there is no VALID row."

    private static void begin() {
        refused(BoundaryTest::nothing, x -> x.begin().due(-2).begin().due(-2).end().due(false));
        refused(x -> x.seed(0).seed(1), x -> x.begin().due(-2).rows().due(0).end().due(false));
        refused(BoundaryTest::someUnderWay, x -> x.begin().due(-1).begin().due(-1));
        refused(BoundaryTest::fullUnderWay, x -> x.begin().due(-1));
        refused(BoundaryTest::allCovered, x -> x.begin().due(-1));
        refused(BoundaryTest::noGoals, x -> x.begin().due(-1));
        refused(BoundaryTest::noValidRow, x -> x.begin().due(-3).rows().due(0).left().due(-1).end().due(false));
        refused(BoundaryTest::allInvalid, x -> x.begin().due(-3).end().due(false));
        refused(x -> x.parameter(2).relation(1, 1).is(0, 0).require().is(0, 1).require(),
                x -> x.begin().due(-3).end().due(false));
        oneValidRow();
        leastAndMostGoals();
        tuplesThatAreNoGoals();
    }

    /** Tuples that only a NEGATIVE row, or only a row with two invalid values, contains. */
    private static void tuplesThatAreNoGoals() {
        Run x = with(3, 2).invalid(0, 2).exclude(0, 0, 1, 1).exclude(0, 1, 1, 1).relation(2, 1);
        x.kind(6).due(1).begin().due(1).next().due(0).next().due(-2).end();
        x.relation(3, 2).due(2).begin().due(1 + 2 + 2).gain(6).due(1).gain(2).due(1).end();
        Run y = with(2, 2).invalid(0, 1).invalid(1, 1).is(0, 1).is(1, 1).join(IMPLIES).require();
        y.kind(5).due(0).relation(3, 1).begin().due(2 + 1).gain(4).due(1).gain(5).due(-2);
        y.next().due(0).next().due(4).next().due(-2);
    }

    private static void oneValidRow() {
        Run x = with(2, 2).relation(3, 2).is(0, 1).is(1, 1).join(AND).require();
        x.begin().due(1).next().due(5).next().due(-2).end().due(true);
        x.invalid(1, 1).due(true).kind(5).due(1).begin().due(-3);
        Run y = with(4, 4, 4, 4, 4, 4).relation(63, 3);
        for (int p = 0; p < 6; p++) {
            y.invalid(p, 0).invalid(p, 1).invalid(p, 2);
        }
        y.kind(4095).due(2).begin().due(20 + 3 * 60).next().due(4095).gained(0).due(20).left().due(180).end();
        y.is(5, 3).not().require().due(1).begin().due(-3);
    }

    private static void leastAndMostGoals() {
        with(2).begin().due(0).left().due(0).next().due(-2);
        with(2).relation(1, 1).begin().due(2);
        Run x = with(4, 4, 4, 4, 4, 4).relation(63, 1).relation(63, 2).relation(63, 3);
        x.begin().due(24 + 15 * 16 + 20 * 64).left().due(1544).gain(0).due(41).next().due(0).left().due(1503);
        Run y = with(4, 4, 4, 4, 4, 4);
        for (int i = 1; i <= 8; i++) {
            y.relation(63, 3).due(i);
        }
        y.begin().due(20 * 64).gain(4095).due(20);
    }

    // Promise 11: "-1 when no generation is under way, -2 when all goals are covered."

    private static void next() {
        refused(BoundaryTest::nothing, x -> x.next().due(-1));
        refused(BoundaryTest::some, x -> x.next().due(-1).next().due(-1));
        refused(BoundaryTest::full, x -> x.next().due(-1));
        refused(BoundaryTest::noValidRow, x -> x.begin().next().due(-1));
        refused(BoundaryTest::noGoals, x -> x.next().due(-2).next().due(-2));
        refused(BoundaryTest::allCovered, x -> x.next().due(-2).next().due(-2));
        refused(x -> {
            allCovered(x);
            x.end();
        }, x -> x.next().due(-1));
        oneGoalLeft();
        validBeforeNegative();
        leastOfSeveral();
        manyRows();
    }

    private static void oneGoalLeft() {
        Run x = with(2).relation(1, 1).begin().due(2).left().due(2);
        x.next().due(0).left().due(1).next().due(1).left().due(0).next().due(-2).rows().due(2);
        Run y = with(2).relation(1, 1).seed(1).seed(0).begin().due(2).left().due(0).next().due(-2);
        y.rows().due(2).row(0).due(1).row(1).due(0);
        Run z = with(3, 2).invalid(0, 2).relation(1, 1).seed(0).seed(1).begin().due(3);
        z.left().due(1).next().due(2).left().due(0).next().due(-2);
    }

    /** A VALID row with the least gain comes before a NEGATIVE one with the greatest. */
    private static void validBeforeNegative() {
        Run x = with(3, 2, 2, 2).invalid(0, 2).relation(15, 2).relation(2, 1);
        x.is(0, 2).is(0, 1).join(OR).require();
        x.seed(1).seed(21).seed(69).seed(17).begin().due(3 * 2 + 3 * 4 + 2 + 3 * 2).left().due(8);
        x.gain(2).due(3).gain(81).due(2).gain(65).due(1).gain(85).due(1).gain(17).due(0);
        x.next().due(81).gained(4).due(2).left().due(6).gain(86).due(3);
        x.next().due(2).gained(5).due(3).next().due(86).gained(6).due(3).left().due(0);
        x.next().due(-2).rows().due(7);
    }

    private static void leastOfSeveral() {
        Run x = with(2, 2).relation(3, 2).begin();
        x.next().due(0).next().due(1).next().due(4).next().due(5).next().due(-2);
        Run y = with(4, 4).relation(2, 1).is(0, 0).not().require().begin();
        y.next().due(1).next().due(5).next().due(9).next().due(13).next().due(-2);
        Run z = with(2, 4).invalid(1, 0).invalid(1, 2).relation(2, 1).begin();
        z.next().due(4).next().due(12).next().due(0).next().due(8).next().due(-2);
    }

    /** Three of the parameters have the value 0, so that 64 rows and then 63 more are needed, one a goal. */
    private static void manyRows() {
        Run x = with(4, 4, 4, 4, 4, 4).relation(7, 3).relation(56, 3);
        x.is(0, 0).is(1, 0).join(AND).is(2, 0).join(AND).is(3, 0).is(4, 0).join(AND).is(5, 0).join(AND);
        x.join(OR).require().due(1).seed(4095).due(1).begin().due(128).rows().due(0);
        x.next().due(0).gained(0).due(2);
        for (int i = 1; i < 64; i++) {
            x.next().due(i);
        }
        for (int i = 1; i < 64; i++) {
            x.next().due(64 * i);
        }
        x.next().due(-2).rows().due(127).left().due(0);
        for (int i = 1; i < 127; i++) {
            x.row(i).due(i < 64 ? i : 64 * (i - 63)).gained(i).due(1);
        }
        x.row(127).due(-1).gained(127).due(-1);
    }

    // Promise 12: "Ends the generation; its rows are gone: true; false when none is under way."

    private static void end() {
        refused(BoundaryTest::nothing, x -> x.end().due(false));
        refused(BoundaryTest::some, x -> x.end().due(false).end().due(false));
        refused(BoundaryTest::full, x -> x.end().due(false));
        refused(BoundaryTest::noValidRow, x -> x.begin().due(-3).end().due(false));
        refused(x -> {
            allCovered(x);
            x.end().due(true);
        }, x -> x.end().due(false));
        Run x = new Run();
        noGoals(x);
        x.end().due(true).end().due(false);
        Run y = new Run();
        someUnderWay(y);
        y.rows().due(4).end().due(true).rows().due(0).row(0).due(-1).gained(0).due(-1).left().due(-1);
        y.next().due(-1).gain(0).due(-1).end().due(false);
        endIsNotSeenLater();
    }

    /** A generation that was begun and ended leaves the object as it was. */
    private static void endIsNotSeenLater() {
        for (Calls watch : WATCHES) {
            Run without = new Run();
            some(without);
            Run with = new Run();
            someUnderWay(with);
            with.next().end().due(true);
            checked++;
            if (!answersTo(watch, with).equals(answersTo(watch, without))) {
                complain("a generation is seen after its end: " + with.latest());
            }
        }
    }

    // Promises 13, 14, 15: "0 when none is under way"; "-1 when there is none".

    private static void rowsTaken() {
        Calls[] noneUnderWay = {BoundaryTest::nothing, BoundaryTest::some, BoundaryTest::full,
            BoundaryTest::noValidRow};
        for (Calls before : noneUnderWay) {
            refused(before, x -> {
                x.rows().due(0);
                noSuchRow(x, 0);
            });
        }
        refused(BoundaryTest::noGoals, x -> {
            x.rows().due(0);
            noSuchRow(x, 0);
        });
        refused(BoundaryTest::someUnderWay, x -> {
            x.rows().due(4);
            noSuchRow(x, 4);
        });
        refused(BoundaryTest::allCovered, x -> {
            x.rows().due(2).next().due(-2).rows().due(2);
            noSuchRow(x, 2);
        });
        Run x = with(2, 2).relation(3, 1);
        for (int i = 0; i < 8; i++) {
            x.seed(i % 2 == 0 ? 5 : 0);
        }
        x.begin().rows().due(8).row(7).due(0).gained(7).due(0).row(0).due(5).gained(0).due(2);
        x.row(1).due(0).gained(1).due(2).gained(2).due(0).row(8).due(-1).gained(8).due(-1).next().due(-2);
    }

    private static void noSuchRow(Run x, int taken) {
        x.row(taken).due(-1).gained(taken).due(-1);
        for (int i : outside(0, Math.max(taken - 1, 0))) {
            x.row(i).due(-1).gained(i).due(-1);
        }
    }

    // Promise 16: "-1 when no generation is under way."

    private static void left() {
        refused(BoundaryTest::nothing, x -> x.left().due(-1));
        refused(BoundaryTest::some, x -> x.left().due(-1));
        refused(BoundaryTest::full, x -> x.left().due(-1));
        refused(BoundaryTest::noValidRow, x -> x.begin().left().due(-1));
        refused(BoundaryTest::noGoals, x -> x.left().due(0));
        refused(BoundaryTest::allCovered, x -> x.left().due(0).next().left().due(0));
        with(2).relation(1, 1).begin().left().due(2).next().left().due(1).next().left().due(0)
                .next().left().due(0).end().left().due(-1);
        with(2, 2).relation(3, 2).seed(0).seed(0).seed(9).begin().due(4).left().due(3).rows().due(2);
    }

    // Promise 17: "-1 when no generation is under way, -2 when it is not the number of a VALID or
    // NEGATIVE row."

    private static void gain() {
        Calls[] noneUnderWay = {BoundaryTest::nothing, BoundaryTest::some, BoundaryTest::full,
            BoundaryTest::noValidRow};
        for (Calls before : noneUnderWay) {
            refused(before, x -> {
                x.gain(0).due(-1).gain(3).due(-1).gain(5).due(-1);
                for (int number : outside(0, 4095)) {
                    x.gain(number).due(-1);
                }
            });
        }
        refused(BoundaryTest::someUnderWay, x -> {
            for (int number : outside(0, 63)) {
                x.gain(number).due(-2);
            }
            x.gain(3).due(-2).gain(8).due(-2).gain(11).due(-2).gain(5).due(-2).gain(50).due(-2);
        });
        Run x = with(4, 4, 4, 4, 4, 4).relation(63, 1).begin();
        for (int number : outside(0, 4095)) {
            x.gain(number).due(-2);
        }
        x.gain(0).due(6).gain(4095).due(6).next().due(0).gain(0).due(0).gain(4095).due(6).gain(3).due(1);
        Run y = with(3, 3).invalid(0, 2).invalid(1, 2).relation(3, 2).relation(3, 1).begin();
        y.gain(0).due(3).gain(2).due(2).gain(8).due(2).gain(10).due(-2).gain(6).due(2).gain(12).due(-2);
        y.next().due(0).gain(0).due(0).gain(2).due(2).next().due(5).gain(5).due(0).gain(4).due(1).gain(8).due(2);
    }

    // Promise 18: "-1 when it is the number of no row or there is no parameter."

    private static void kind() {
        Calls outOfAll = x -> {
            for (int number : outside(0, 4095)) {
                x.kind(number).due(-1);
            }
        };
        refused(BoundaryTest::nothing, x -> {
            x.kind(0).due(-1).kind(1).due(-1).kind(4095).due(-1);
            outOfAll.on(x);
        });
        refused(x -> x.seed(0), x -> x.kind(0).due(-1));
        refused(BoundaryTest::full, outOfAll);
        refused(BoundaryTest::fullUnderWay, outOfAll);
        for (int count = 1; count <= 6; count++) {
            kindsOf(count);
        }
        for (int underWay = 0; underWay < 2; underWay++) {
            Run x = with(2, 3, 4).invalid(2, 3).is(1, 0).not().require();
            if (underWay == 1) {
                x.begin().due(0);
            }
            for (int number = -2; number <= 70; number++) {
                x.kind(number).due(kindIn234(number));
            }
        }
    }

    /** Of 2, 3 and 4 values, where the value 3 of parameter 2 is invalid and 1 must not have the value 0. */
    private static int kindIn234(int number) {
        int v0 = number & 3;
        int v1 = number >> 2 & 3;
        if (number < 0 || number > 63 || v0 > 1 || v1 > 2) {
            return -1;
        }
        return v1 == 0 ? 0 : number >> 4 == 3 ? 1 : 2;
    }

    private static void kindsOf(int count) {
        int least = (1 << 2 * count) - 1;
        Run x = new Run();
        for (int p = 0; p < count; p++) {
            x.parameter(4);
        }
        x.kind(-1).due(-1).kind(0).due(2).kind(least).due(2).kind(least + 1).due(-1);
        for (int number : outside(0, least)) {
            x.kind(number).due(-1);
        }
        Run y = new Run();
        for (int p = 0; p < count; p++) {
            y.parameter(3);
        }
        for (int p = 0; p < count; p++) {
            y.kind(2 << 2 * p).due(2).kind(3 << 2 * p).due(-1).kind(least & ~(1 << 2 * p)).due(count == 1 ? 2 : -1);
        }
    }

    // Promise 19: "-1 when there is no parameter, or partial has bits other than these, or gives a value
    // that a parameter does not have (and not 7)."

    private static void extendable() {
        refused(BoundaryTest::nothing, x -> {
            x.extendable(0).due(-1).extendable(7).due(-1).extendable((1 << 18) - 1).due(-1);
            x.extendable(-1).due(-1).extendable(MIN).due(-1).extendable(MAX).due(-1);
        });
        for (int count = 1; count <= 6; count++) {
            bitsOfPartial(count);
        }
        for (int values = 2; values <= 4; values++) {
            for (int p = 0; p < 6; p++) {
                valuesOfPartial(values, p);
            }
        }
        Calls wrongPartials = x -> {
            x.extendable(1 << 18).due(-1).extendable(-1).due(-1).extendable(MIN).due(-1).extendable(MAX).due(-1);
            x.extendable(4).due(-1).extendable(6 << 15).due(-1).extendable(5 << 6 | 7).due(-1);
        };
        refused(BoundaryTest::full, wrongPartials);
        refused(BoundaryTest::fullUnderWay, wrongPartials);
        kindsOfPartial();
    }

    private static void bitsOfPartial(int count) {
        Run x = new Run();
        for (int p = 0; p < count; p++) {
            x.parameter(4);
        }
        int all = (1 << 3 * count) - 1;
        x.extendable(all).due(2).extendable(0).due(2);
        for (int bit = 3 * count; bit < 32; bit++) {
            x.extendable(1 << bit).due(-1).extendable(all | 1 << bit).due(-1);
        }
        x.extendable(MIN).due(-1).extendable(-1).due(-1).extendable(MAX).due(-1).extendable(~all).due(-1);
    }

    private static void valuesOfPartial(int values, int p) {
        Run x = new Run();
        for (int q = 0; q < 6; q++) {
            x.parameter(q == p ? values : 4);
        }
        int others = (1 << 18) - 1 & ~(7 << 3 * p);
        for (int v = 0; v < 8; v++) {
            x.extendable(others | v << 3 * p).due(v < values || v == 7 ? 2 : -1);
            x.extendable(v << 3 * p).due(v < values || v == 7 ? 2 : -1);
        }
    }

    /** A wrong value is seen although what else is given extends to no row, and the other way about. */
    private static void kindsOfPartial() {
        for (int underWay = 0; underWay < 2; underWay++) {
            Run x = with(3, 3, 2).invalid(0, 2).invalid(1, 2).exclude(0, 0, 1, 0).exclude(0, 2, 2, 0);
            if (underWay == 1) {
                x.begin().due(0);
            }
            x.extendable(7 | 7 << 3 | 7 << 6).due(2).extendable(0 | 7 << 3 | 7 << 6).due(2);
            x.extendable(0 | 0 << 3 | 7 << 6).due(0).extendable(0 | 0 << 3 | 2 << 6).due(-1);
            x.extendable(0 | 0 << 3 | 1 << 6).due(0).extendable(2 | 7 << 3 | 7 << 6).due(1);
            x.extendable(2 | 7 << 3 | 0 << 6).due(0).extendable(2 | 2 << 3 | 7 << 6).due(0);
            x.extendable(7 | 2 << 3 | 0 << 6).due(1).extendable(2 | 0 << 3 | 1 << 6).due(1);
            x.extendable(1 | 2 << 3 | 0 << 6).due(1).extendable(1 | 1 << 3 | 1 << 6).due(2);
            x.extendable(3 | 2 << 3 | 0 << 6).due(-1).extendable(2 | 3 << 3 | 0 << 6).due(-1);
        }
        Run none = new Run();
        noValidRow(none);
        none.extendable(63).due(1).extendable(0 | 7 << 3).due(1).extendable(7 | 2 << 3).due(1);
        none.invalid(1, 2).extendable(7 | 2 << 3).due(0).extendable(63).due(1).extendable(7 | 3 << 3).due(-1);
    }

    // Promise 20: "-1 when size is not 1 .. 3."

    private static void forbidden() {
        Calls wrongSizes = x -> {
            for (int size : outside(1, 3)) {
                x.forbidden(size).due(-1);
            }
        };
        Calls[] states = {BoundaryTest::nothing, BoundaryTest::some, BoundaryTest::full,
            BoundaryTest::someUnderWay, BoundaryTest::fullUnderWay, BoundaryTest::noValidRow};
        for (Calls before : states) {
            refused(before, wrongSizes);
        }
        new Run().forbidden(1).due(0).forbidden(2).due(0).forbidden(3).due(0);
        with(4).forbidden(1).due(0).forbidden(2).due(0).forbidden(3).due(0);
        with(4).is(0, 1).require().forbidden(1).due(3).forbidden(2).due(0).forbidden(3).due(0);
        with(4, 4).exclude(0, 3, 1, 3).forbidden(1).due(0).forbidden(2).due(1).forbidden(3).due(0);
        with(4).invalid(0, 0).is(0, 1).require().forbidden(1).due(2);
        with(2).is(0, 0).require().is(0, 1).require().forbidden(1).due(0);
        with(2, 2).invalid(0, 0).invalid(0, 1).forbidden(1).due(0).forbidden(2).due(0);
        mostForbidden();
    }

    private static void mostForbidden() {
        Run x = with(4, 4, 4, 4, 4, 4);
        for (int p = 0; p < 6; p++) {
            x.is(p, 3).require().due(p + 1);
        }
        x.forbidden(1).due(18).forbidden(2).due(0).forbidden(3).due(0).begin().due(0).forbidden(1).due(18);
        Run pairs = with(4, 4, 4, 4, 4, 4);
        for (int p = 0; p < 6; p += 2) {
            for (int v = 0; v < 4; v++) {
                pairs.is(p, v).is(p + 1, v).join(AND);
                if (v > 0) {
                    pairs.join(OR);
                }
            }
            pairs.require();
        }
        pairs.forbidden(1).due(0).forbidden(2).due(3 * 12).forbidden(3).due(0);
        Run triple = with(2, 2, 2, 2, 2, 2).is(3, 1).is(4, 0).join(OR).is(5, 1).join(OR).require();
        triple.forbidden(1).due(0).forbidden(2).due(0).forbidden(3).due(1);
        triple.invalid(4, 0).due(true).forbidden(2).due(1).forbidden(3).due(0);
    }

    // "An object is used for at most 512 calls": the last of them answers as the first.

    private static void lastOf512Calls() {
        Run x = with(2, 2).relation(3, 2);
        while (x.made + 4 <= CALLS - 5) {
            x.begin().due(4).next().due(0).next().due(1).end().due(true);
        }
        while (x.made < CALLS - 5) {
            x.kind(5).due(2);
        }
        x.begin().due(4).next().due(0).next().due(1).next().due(4).next().due(5);
        mostRowsIn512Calls();
    }

    /**
     * Rows with at most three values other than 0, so that each triple of those needs a row of its
     * own: 540 rows, more than the calls that are left can take.
     */
    private static void mostRowsIn512Calls() {
        Run x = with(4, 4, 4, 4, 4, 4).relation(63, 3);
        requireThreeZeros(x);
        for (int i = 1; i <= 8; i++) {
            x.seed(i).due(i);
        }
        x.begin().due(20 * 64).rows().due(8);
        int[] numbers = new int[CALLS];
        int taken = 8;
        while (x.made < CALLS - 14) {
            numbers[taken] = (int) x.next().last;
            taken++;
        }
        x.rows().due(taken).row(8).due(numbers[8]).row(256).due(numbers[256]);
        for (int i = taken - 5; i < taken; i++) {
            x.row(i).due(numbers[i]).gained(i).due(1);
        }
        x.row(taken).due(-1);
        if (x.made != CALLS) {
            complain("the last call is the " + x.made + "th");
        }
    }

    /** So many zeros among the first three parameters and so many among the others make three. */
    private static void requireThreeZeros(Run x) {
        threeZeros(x, 0);
        threeZeros(x, 3);
        x.join(OR).due(true);
        for (int first = 0; first <= 3; first += 3) {
            int other = 3 - first;
            x.is(first, 0).is(first + 1, 0).join(AND);
            x.is(first, 0).is(first + 1, 0).join(OR).is(first + 2, 0).join(AND).join(OR);
            x.is(other, 0).is(other + 1, 0).join(OR).is(other + 2, 0).join(OR);
            x.join(AND).join(OR).due(true);
        }
        x.require().due(1);
    }

    private static void threeZeros(Run x, int first) {
        x.is(first, 0).is(first + 1, 0).join(AND).is(first + 2, 0).join(AND).due(true);
    }

    public static void main(String[] args) {
        newObject();
        objectsAreApart();
        parameter();
        invalid();
        relation();
        is();
        not();
        join();
        require();
        seed();
        begin();
        next();
        end();
        rowsTaken();
        left();
        gain();
        kind();
        extendable();
        forbidden();
        lastOf512Calls();
        System.out.println(wrong == 0 ? checked + " answers at the bounds are as due"
                : wrong + " of " + checked + " answers are not as due");
        System.exit(wrong == 0 ? 0 : 1);
    }
}
