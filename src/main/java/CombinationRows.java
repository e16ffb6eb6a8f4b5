import java.util.Arrays;

/**
 * Picks rows of values for a few parameters so that all combinations that are asked for are in
 * some row, as far as rules allow them.
 *
 * <p>A row is its number throughout: parameter p stands in the bits 2p and 2p + 1. A tuple is a
 * pair of ints, the FIELDS (those bits of a number in which its parameters stand, all set) and
 * the BITS (their values, at the same places). All arrays are made in constructors and used again.
 */
public final class CombinationRows {
    private static final int MAX_PARAMETERS = 6;
    private static final int MIN_VALUES = 2;
    private static final int MAX_VALUES = 4;
    private static final int MAX_RELATIONS = 8;
    private static final int MAX_STRENGTH = 3;
    private static final int MAX_TERMS = 8;
    private static final int MAX_DEPTH = 8;
    private static final int MAX_RULES = 8;
    private static final int MAX_SEEDS = 8;

    /** Each call takes one row at most, and an object is used for 512 calls. */
    private static final int MAX_ROWS = MAX_SEEDS + 512;

    /** All sets of six parameters, the empty one included. */
    private static final int SETS = 64;

    /** All numbers that six parameters can have. */
    private static final int NUMBERS = 4096;

    /** The numbers are kept as bits of so many longs: three parameters inside a long, three beside. */
    private static final int WORDS = 64;
    private static final int PARAMETERS_IN_WORD = 3;

    /** Of the 64 numbers in a long, those that give parameter 0, 1 or 2 the value 0. */
    private static final long[] ZERO_IN_WORD = {0x1111111111111111L, 0x000F000F000F000FL, 0xFFFFL};

    /** Of the 64 sets, as bits of a long, those that parameter 0, 1, .. 5 is in. */
    private static final long[] SETS_WITH = {
        0xAAAAAAAAAAAAAAAAL, 0xCCCCCCCCCCCCCCCCL, 0xF0F0F0F0F0F0F0F0L,
        0xFF00FF00FF00FF00L, 0xFFFF0000FFFF0000L, 0xFFFFFFFF00000000L
    };

    private static final int AND = 0;
    private static final int OR = 1;
    private static final int IMPLIES = 2;

    private static final int NO_ROW = -1;
    private static final int NEITHER = 0;
    private static final int NEGATIVE = 1;
    private static final int VALID = 2;

    /** What a parameter has in a partial row when it may have any value. */
    private static final int ANY = 7;

    private final Space space;
    private final Relations relations;
    private final Terms terms;
    private final int[] seeds;
    private final Generation generation;
    private int seedCount;
    private boolean underWay;

    public CombinationRows() {
        space = new Space();
        relations = new Relations();
        terms = new Terms();
        seeds = new int[MAX_SEEDS];
        generation = new Generation(space, relations);
    }

    public int parameter(int values) {
        if (underWay) {
            return -1;
        }
        if (values < MIN_VALUES || values > MAX_VALUES || space.parameters == MAX_PARAMETERS) {
            return -2;
        }
        space.addParameter(values);
        return space.parameters - 1;
    }

    public boolean invalid(int p, int v) {
        if (underWay || !space.hasValue(p, v) || space.isInvalid(p, v)) {
            return false;
        }
        space.makeInvalid(p, v);
        return true;
    }

    public int relation(int set, int strength) {
        if (underWay) {
            return -1;
        }
        if (!space.isSet(set) || strength < 1 || strength > MAX_STRENGTH
                || Integer.bitCount(set) < strength) {
            return -2;
        }
        if (relations.count == MAX_RELATIONS) {
            return -3;
        }
        relations.add(set, strength);
        return relations.count;
    }

    public boolean is(int p, int v) {
        return !underWay && space.hasValue(p, v) && terms.push(p, v);
    }

    public boolean not() {
        return !underWay && terms.negate();
    }

    public boolean join(int op) {
        return !underWay && op >= AND && op <= IMPLIES && terms.combine(op);
    }

    public int require() {
        if (underWay) {
            return -1;
        }
        if (terms.count == 0) {
            return -2;
        }
        if (space.rules == MAX_RULES) {
            return -3;
        }
        space.addRule(terms.pop());
        return space.rules;
    }

    public int seed(int number) {
        if (underWay) {
            return -1;
        }
        if (seedCount == MAX_SEEDS) {
            return -2;
        }
        seeds[seedCount] = number;
        seedCount++;
        return seedCount;
    }

    public int begin() {
        if (underWay) {
            return -1;
        }
        if (space.parameters == 0) {
            return -2;
        }
        if (space.valid.isEmpty()) {
            return -3;
        }
        underWay = true;
        int goals = generation.countGoals();
        generation.start(goals);
        takeSeeds();
        return goals;
    }

    private void takeSeeds() {
        for (int i = 0; i < seedCount; i++) {
            if (space.rank(seeds[i]) >= NEGATIVE) {
                generation.take(seeds[i]);
            }
        }
    }

    public int next() {
        if (!underWay) {
            return -1;
        }
        int number = generation.best();
        if (number == NO_ROW || generation.isFull()) {
            return -2;
        }
        generation.take(number);
        return number;
    }

    public boolean end() {
        boolean ended = underWay;
        underWay = false;
        return ended;
    }

    public int rows() {
        return underWay ? generation.taken : 0;
    }

    public int row(int i) {
        return isTaken(i) ? generation.numbers[i] : -1;
    }

    public int gained(int i) {
        return isTaken(i) ? generation.gainsTaken[i] : -1;
    }

    private boolean isTaken(int i) {
        return underWay && i >= 0 && i < generation.taken;
    }

    public int left() {
        return underWay ? generation.goalsLeft : -1;
    }

    public int gain(int number) {
        if (!underWay) {
            return -1;
        }
        return space.rank(number) >= NEGATIVE ? generation.gains[number] : -2;
    }

    public int kind(int number) {
        return space.parameters == 0 ? NO_ROW : space.rank(number);
    }

    public int extendable(int partial) {
        if (space.parameters == 0 || partial >>> 3 * space.parameters != 0) {
            return -1;
        }
        int fields = 0;
        int bits = 0;
        for (int p = 0; p < space.parameters; p++) {
            int value = partial >> 3 * p & 7;
            if (value != ANY) {
                if (!space.hasValue(p, value)) {
                    return -1;
                }
                fields |= 3 << 2 * p;
                bits |= value << 2 * p;
            }
        }
        if (space.valid.hasRowWith(fields, bits)) {
            return VALID;
        }
        return space.negative.hasRowWith(fields, bits) ? NEGATIVE : NEITHER;
    }

    public int forbidden(int size) {
        if (size < 1 || size > MAX_STRENGTH) {
            return -1;
        }
        int found = 0;
        for (int set = 1; set < SETS; set++) {
            if (space.isSet(set) && Integer.bitCount(set) == size) {
                found += space.minimalForbidden(fieldsOf(set));
            }
        }
        return found;
    }

    private static int fieldsOf(int set) {
        int fields = 0;
        for (int p = 0; p < MAX_PARAMETERS; p++) {
            if ((set >> p & 1) != 0) {
                fields |= 3 << 2 * p;
            }
        }
        return fields;
    }

    private static int valueOf(int p, int number) {
        return number >> 2 * p & 3;
    }

    /**
     * The next combination of bits of a mask, in rising order, 0 after the last one. To subtract
     * the mask is to set all bits outside of it and add 1, so that the carry passes them.
     */
    private static int nextWithin(int mask, int bits) {
        return bits - mask & mask;
    }

    /** A set of numbers. */
    private static final class NumberSet {
        final long[] words = new long[WORDS];

        boolean has(int number) {
            return number >= 0 && number < NUMBERS
                    && (words[number >> 6] >>> (number & 63) & 1L) != 0L;
        }

        boolean isEmpty() {
            return !hasRowWith(0, 0);
        }

        boolean hasRowWith(int fields, int bits) {
            long inWord = inWordWith(fields, bits);
            int first = bits >> 6 & 63;
            int free = ~(fields >> 6) & 63;
            int count = 1 << Integer.bitCount(free);
            int step = 0;
            for (int i = 0; i < count; i++) {
                if ((words[first | step] & inWord) != 0L) {
                    return true;
                }
                step = nextWithin(free, step);
            }
            return false;
        }

        private static long inWordWith(int fields, int bits) {
            long found = -1L;
            for (int p = 0; p < PARAMETERS_IN_WORD; p++) {
                if (valueOf(p, fields) != 0) {
                    found &= ZERO_IN_WORD[p] << (valueOf(p, bits) << 2 * p);
                }
            }
            return found;
        }

        /** Of the 64 numbers in the word w, those that give parameter p the value v. */
        static long wordOf(int p, int v, int w) {
            if (p < PARAMETERS_IN_WORD) {
                return ZERO_IN_WORD[p] << (v << 2 * p);
            }
            return valueOf(p - PARAMETERS_IN_WORD, w) == v ? -1L : 0L;
        }

        void becomeIs(int p, int v) {
            for (int w = 0; w < WORDS; w++) {
                words[w] = wordOf(p, v, w);
            }
        }

        void becomeAll() {
            Arrays.fill(words, -1L);
        }

        void becomeNot() {
            for (int w = 0; w < WORDS; w++) {
                words[w] = ~words[w];
            }
        }

        void becomeAnd(NumberSet other) {
            for (int w = 0; w < WORDS; w++) {
                words[w] &= other.words[w];
            }
        }

        void becomeOr(NumberSet other) {
            for (int w = 0; w < WORDS; w++) {
                words[w] |= other.words[w];
            }
        }
    }

    /**
     * The stack of terms. A term is kept as the set of all numbers that meet it, also of those
     * that no row has yet, so that it stays right when a parameter is made later.
     */
    private static final class Terms {
        private final NumberSet[] meeting = new NumberSet[MAX_TERMS];
        private final int[] depths = new int[MAX_TERMS];
        int count;

        Terms() {
            for (int i = 0; i < MAX_TERMS; i++) {
                meeting[i] = new NumberSet();
            }
        }

        boolean push(int p, int v) {
            if (count == MAX_TERMS) {
                return false;
            }
            meeting[count].becomeIs(p, v);
            depths[count] = 1;
            count++;
            return true;
        }

        boolean negate() {
            if (count == 0 || depths[count - 1] == MAX_DEPTH) {
                return false;
            }
            meeting[count - 1].becomeNot();
            depths[count - 1]++;
            return true;
        }

        boolean combine(int op) {
            if (count < 2) {
                return false;
            }
            int deepest = Math.max(depths[count - 2], depths[count - 1]);
            if (deepest == MAX_DEPTH) {
                return false;
            }
            combineSets(op, meeting[count - 2], meeting[count - 1]);
            depths[count - 2] = deepest + 1;
            count--;
            return true;
        }

        private static void combineSets(int op, NumberSet x, NumberSet y) {
            if (op == AND) {
                x.becomeAnd(y);
            } else if (op == OR) {
                x.becomeOr(y);
            } else {
                x.becomeNot();
                x.becomeOr(y);
            }
        }

        /** The set is the stack's own: it holds until the next term is put there. */
        NumberSet pop() {
            if (count > 0) {
                count--;
            }
            return meeting[count];
        }
    }

    /** The parameters and the rules, and the VALID and NEGATIVE rows that follow from them. */
    private static final class Space {
        /** A parameter that is not made has the value 0 alone, as it has in every number. */
        private final int[] values = new int[MAX_PARAMETERS];
        private final int[] invalidValues = new int[MAX_PARAMETERS];
        private final NumberSet meetingRules = new NumberSet();
        final NumberSet valid = new NumberSet();
        final NumberSet negative = new NumberSet();
        int parameters;
        int rules;

        Space() {
            Arrays.fill(values, 1);
            meetingRules.becomeAll();
            sortRows();
        }

        void addParameter(int count) {
            values[parameters] = count;
            parameters++;
            sortRows();
        }

        void makeInvalid(int p, int v) {
            invalidValues[p] |= 1 << v;
            sortRows();
        }

        void addRule(NumberSet meeting) {
            meetingRules.becomeAnd(meeting);
            rules++;
            sortRows();
        }

        private void sortRows() {
            for (int w = 0; w < WORDS; w++) {
                long withNone = meetingRules.words[w];
                long withOne = 0L;
                for (int p = 0; p < MAX_PARAMETERS; p++) {
                    long good = wordWith(p, ~invalidValues[p], w);
                    long bad = wordWith(p, invalidValues[p], w);
                    withOne = withOne & good | withNone & bad;
                    withNone &= good;
                }
                valid.words[w] = withNone;
                negative.words[w] = withOne;
            }
        }

        /** Of the 64 numbers in the word w, those that give p a value that it has and that is chosen. */
        private long wordWith(int p, int chosen, int w) {
            long found = 0L;
            for (int v = 0; v < values[p]; v++) {
                if ((chosen >> v & 1) != 0) {
                    found |= NumberSet.wordOf(p, v, w);
                }
            }
            return found;
        }

        boolean hasValue(int p, int v) {
            return p >= 0 && p < parameters && v >= 0 && v < values[p];
        }

        /** For values that hasValue has seen. */
        boolean isInvalid(int p, int v) {
            return (invalidValues[p] >> v & 1) != 0;
        }

        /** No row has this number or a greater one. */
        int numberLimit() {
            return 1 << 2 * parameters;
        }

        int allFields() {
            return numberLimit() - 1;
        }

        boolean isSet(int set) {
            return set > 0 && set < 1 << parameters;
        }

        int rank(int number) {
            if (number < 0 || number >= numberLimit() || !hasAllValues(number)) {
                return NO_ROW;
            }
            if (valid.has(number)) {
                return VALID;
            }
            return negative.has(number) ? NEGATIVE : NEITHER;
        }

        private boolean hasAllValues(int number) {
            for (int p = 0; p < MAX_PARAMETERS; p++) {
                if (valueOf(p, number) >= values[p]) {
                    return false;
                }
            }
            return true;
        }

        /** The set of the parameters of a tuple that have an invalid value in it. */
        int invalidIn(int fields, int bits) {
            int set = 0;
            for (int p = 0; p < MAX_PARAMETERS; p++) {
                if (valueOf(p, fields) != 0 && isInvalid(p, valueOf(p, bits))) {
                    set |= 1 << p;
                }
            }
            return set;
        }

        int minimalForbidden(int fields) {
            int found = 0;
            int count = 1 << Integer.bitCount(fields);
            int bits = 0;
            for (int i = 0; i < count; i++) {
                if (isMinimalForbidden(fields, bits)) {
                    found++;
                }
                bits = nextWithin(fields, bits);
            }
            return found;
        }

        private boolean isMinimalForbidden(int fields, int bits) {
            if (!hasAllValues(bits) || invalidIn(fields, bits) != 0
                    || valid.hasRowWith(fields, bits)) {
                return false;
            }
            for (int p = 0; p < MAX_PARAMETERS; p++) {
                int others = fields & ~(3 << 2 * p);
                if (others != fields && !valid.hasRowWith(others, bits & others)) {
                    return false;
                }
            }
            return true;
        }
    }

    /** The sets of parameters all of whose tuples are asked for. */
    private static final class Relations {
        private long asked;
        int count;

        void add(int set, int strength) {
            for (int part = 1; part < SETS; part++) {
                if ((part & ~set) == 0 && Integer.bitCount(part) == strength) {
                    asked |= 1L << part;
                }
            }
            count++;
        }

        /** Those of the sets, as bits of a long, that all parameters of a given set are in. */
        long askedWith(int set) {
            long found = asked;
            for (int p = 0; p < MAX_PARAMETERS; p++) {
                if ((set >> p & 1) != 0) {
                    found &= SETS_WITH[p];
                }
            }
            return found;
        }
    }

    /**
     * The rows taken and the gain that each row would have now. A VALID or NEGATIVE row makes a
     * goal of every tuple that it could cover, so the sets that are asked for tell its first gain,
     * and the goals themselves need not be kept.
     */
    private static final class Generation {
        private final Space space;
        private final Relations relations;

        /** For each set of parameters the covered tuples, each a bit at the place that pack tells. */
        private final long[] covered = new long[SETS];
        final int[] gains = new int[NUMBERS];
        final int[] numbers = new int[MAX_ROWS];
        final int[] gainsTaken = new int[MAX_ROWS];
        int taken;
        int goalsLeft;

        Generation(Space space, Relations relations) {
            this.space = space;
            this.relations = relations;
        }

        void start(int goals) {
            Arrays.fill(covered, 0L);
            taken = 0;
            goalsLeft = goals;
            int limit = space.numberLimit();
            for (int number = 0; number < limit; number++) {
                gains[number] = Long.bitCount(setsCoveredBy(number));
            }
        }

        int countGoals() {
            long asked = relations.askedWith(0);
            int goals = 0;
            for (int set = 1; set < SETS; set++) {
                if ((asked >>> set & 1L) != 0L) {
                    goals += countGoalsOf(fieldsOf(set));
                }
            }
            return goals;
        }

        private int countGoalsOf(int fields) {
            int goals = 0;
            int count = 1 << Integer.bitCount(fields);
            int bits = 0;
            for (int i = 0; i < count; i++) {
                if (isGoal(fields, bits)) {
                    goals++;
                }
                bits = nextWithin(fields, bits);
            }
            return goals;
        }

        private boolean isGoal(int fields, int bits) {
            int invalid = space.invalidIn(fields, bits);
            if (invalid == 0) {
                return space.valid.hasRowWith(fields, bits);
            }
            return Integer.bitCount(invalid) == 1 && space.negative.hasRowWith(fields, bits);
        }

        /** The sets, as bits of a long, whose tuple in this row the row covers. */
        private long setsCoveredBy(int number) {
            if (space.valid.has(number)) {
                return relations.askedWith(0);
            }
            if (space.negative.has(number)) {
                return relations.askedWith(space.invalidIn(space.allFields(), number));
            }
            return 0L;
        }

        boolean isFull() {
            return taken == MAX_ROWS;
        }

        /** NO_ROW when no row gains anything, which is so when all goals are covered. */
        int best() {
            int number = bestOf(space.valid);
            return number == NO_ROW ? bestOf(space.negative) : number;
        }

        private int bestOf(NumberSet rows) {
            int best = NO_ROW;
            int most = 0;
            int limit = space.numberLimit();
            for (int number = 0; number < limit; number++) {
                if (gains[number] > most && rows.has(number)) {
                    most = gains[number];
                    best = number;
                }
            }
            return best;
        }

        /** For VALID and NEGATIVE rows, while isFull is false. */
        void take(int number) {
            NumberSet kin = space.valid.has(number) ? space.valid : space.negative;
            long sets = setsCoveredBy(number);
            int gain = 0;
            for (int set = 1; set < SETS; set++) {
                if ((sets >>> set & 1L) != 0L && cover(set, number)) {
                    lowerGains(fieldsOf(set), number, kin);
                    gain++;
                }
            }
            numbers[taken] = number;
            gainsTaken[taken] = gain;
            taken++;
            goalsLeft -= gain;
        }

        private boolean cover(int set, int number) {
            long bit = 1L << pack(set, number);
            boolean first = (covered[set] & bit) == 0L;
            covered[set] |= bit;
            return first;
        }

        private static int pack(int set, int number) {
            int packed = 0;
            for (int p = 0; p < MAX_PARAMETERS; p++) {
                if ((set >> p & 1) != 0) {
                    packed = packed << 2 | valueOf(p, number);
                }
            }
            return packed;
        }

        /** Only rows of the same kind could have covered the tuple that is covered now. */
        private void lowerGains(int fields, int number, NumberSet kin) {
            int free = space.allFields() & ~fields;
            int count = 1 << Integer.bitCount(free);
            int rest = 0;
            for (int i = 0; i < count; i++) {
                int other = number & fields | rest;
                if (kin.has(other)) {
                    gains[other]--;
                }
                rest = nextWithin(free, rest);
            }
        }
    }
}
