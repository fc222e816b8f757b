import java.util.Arrays;
import java.util.NoSuchElementException;

/** A house for steering: what each call answers is told by the promises of the document. */
public final class SteeringHouse {
    public static final int NONE = -1;

    private static final int OUT = -2;
    private static final int NO_VALUE = -2147483648;
    private static final long NO_GAIN = -9223372036854775808L;

    private static final int STATE = 0;
    private static final int PUSH = 1;
    private static final int WORLD = 2;
    private static final int NUM = 3;
    private static final int SIGHT = 4;

    private static final int MOST_BYTES = 400;
    private static final int MOST_CELLS = 400;
    private static final int MOST_PUSHES = 9;
    private static final int MOST_WORLDS = 27;
    private static final int MOST_WORDS = MOST_CELLS / 32 + 1;
    private static final int MOST_SUM = 1000000;
    private static final int LOST = 1000000;
    private static final int MOST_COST = 1000;
    private static final int MOST_HORIZON = 20;
    private static final int MOST_TICKS = 30;
    private static final int MOST_FACTOR = 20;
    private static final int MOST_TOLD = 999;

    private static final int ABSENT = 1;
    private static final int NUMBER = 2;
    private static final int ROOM = 3;
    private static final int FAULT = 4;
    private static final int NOT_SO = 5;

    /** Every name has one slot, so that a row of values serves all kinds at once. */
    private static final int SLOTS = 9;
    private static final int[] BASE = {0, 3, 5, 7, 9};
    private static final int[] MOST = {3, 2, 2, 2, 2};

    private final int[] tape = new int[MOST_BYTES];
    private int bytes;
    private boolean standing;
    private int trouble;
    private int fault;
    private int place;
    private final int[] values = new int[SLOTS];
    private final Model thing = new Model();
    private final Model draft = new Model();
    private final Formulas wish = new Formulas();
    private final Reader reader = new Reader(draft);
    private final Moves moves = new Moves(thing);
    private final Wishes wishes = new Wishes(thing, moves);
    private final Safety safety = new Safety(thing, moves, wishes);
    private final Payments payments = new Payments(thing, moves, wishes);
    private final Linear linear = new Linear(thing);
    private final Watcher watcher = new Watcher(thing, moves, wishes);
    private final Proofs proofs = new Proofs(thing, moves, wishes, safety);

    public SteeringHouse() {
    }

    // ---- the thing

    public int feed(int a, int b, int c, int d, int e) {
        if (bytes + 20 > MOST_BYTES) {
            return NONE;
        }
        takeFour(a);
        takeFour(b);
        takeFour(c);
        takeFour(d);
        takeFour(e);
        return bytes;
    }

    public int thing(int n) {
        if (n < 0 || n > bytes) {
            return refused(NUMBER);
        }
        boolean fine = reader.readThing(tape, n, draft);
        if (!settled(fine)) {
            return NONE;
        }
        thing.take(draft);
        standing = true;
        moves.forget();
        wishes.renew();
        proofs.renew();
        linear.forget();
        watcher.renew();
        safety.forget();
        payments.forget();
        return thing.cells;
    }

    public int good(int n) {
        if (!wishReadable(n)) {
            return NONE;
        }
        boolean fine = reader.readTest(tape, n, thing, wish);
        if (!settled(fine)) {
            return NONE;
        }
        wishes.setGood(wish);
        safety.forget();
        payments.forget();
        watcher.forget();
        return wishes.goodCells;
    }

    public int goal(int n) {
        if (!wishReadable(n)) {
            return NONE;
        }
        boolean fine = reader.readTest(tape, n, thing, wish);
        return settled(fine) ? wishes.setGoal(wish) : NONE;
    }

    public int cost(int n) {
        if (!wishReadable(n)) {
            return NONE;
        }
        boolean fine = reader.readSum(tape, n, thing, wish);
        if (!settled(fine)) {
            return NONE;
        }
        wishes.setCosts(wish);
        payments.forget();
        return 0;
    }

    public int fault() {
        return fault;
    }

    public int where() {
        return trouble == FAULT ? place : NONE;
    }

    public int count(int what) {
        if (what == 11) {
            return bytes;
        }
        if (!standing || what < 0) {
            return NONE;
        }
        if (what <= SIGHT) {
            return thing.many[what];
        }
        switch (what) {
            case 5: return thing.cells;
            case 6: return thing.pushes;
            case 7: return thing.worlds;
            case 8: return thing.steps;
            case 9: return wishes.goodCells;
            case 10: return linear.holds() ? 1 : 0;
            case 12: return watcher.ticks;
            case 13: return proofs.claimed;
            default: return NONE;
        }
    }

    public int cell(int x, int y, int z) {
        if (!standing) {
            return NONE;
        }
        values[0] = x;
        values[1] = y;
        values[2] = z;
        int found = thing.cellOf(values);
        return found < 0 ? NONE : found;
    }

    public int state(int cell, int i) {
        if (!hasCell(cell) || i < 0 || i >= thing.many[STATE]) {
            return NO_VALUE;
        }
        thing.spread(STATE, cell, 0, values);
        return values[BASE[STATE] + i];
    }

    public int push(int push, int i) {
        if (!hasPush(push) || i < 0 || i >= thing.many[PUSH]) {
            return NO_VALUE;
        }
        thing.spread(PUSH, push, 0, values);
        return values[BASE[PUSH] + i];
    }

    public int next(int cell, int push, int world) {
        if (!hasMove(cell, push, world)) {
            return refused(ABSENT);
        }
        trouble = 0;
        thing.spreadMove(cell, push, world, values);
        return thing.lead(values);
    }

    public int sight(int cell, int push, int world, int i) {
        if (!hasMove(cell, push, world) || i < 0 || i >= thing.many[SIGHT]) {
            return NO_VALUE;
        }
        thing.spreadMove(cell, push, world, values);
        return thing.seen(i, values);
    }

    // ---- wishes kept

    public int safe() {
        if (!standing) {
            return refused(ABSENT);
        }
        trouble = 0;
        return readySafety().safeCells;
    }

    public int layer(int cell) {
        if (!hasCell(cell)) {
            return NONE;
        }
        return wishes.isGood(cell) ? readySafety().layers[cell] : -2;
    }

    public int allowed(int cell) {
        return hasCell(cell) ? readySafety().open[cell] : NONE;
    }

    public int ticks(int cell) {
        return hasCell(cell) ? readyReaches().reaches[cell] : NONE;
    }

    public int law(int cell) {
        return hasCell(cell) ? readyReaches().laws[cell] : NONE;
    }

    public int best(int cell, int horizon) {
        if (!hasCell(cell)) {
            return refused(ABSENT);
        }
        if (horizon < 0 || horizon > MOST_HORIZON) {
            return refused(NUMBER);
        }
        trouble = 0;
        return readyPayments(horizon).paid(cell, horizon);
    }

    public int bestLaw(int cell, int horizon) {
        if (!hasCell(cell)) {
            return refused(ABSENT);
        }
        if (horizon < 1 || horizon > MOST_HORIZON) {
            return refused(NUMBER);
        }
        trouble = 0;
        return readyPayments(horizon).lawOf(cell, horizon);
    }

    public int worst(int cell, int horizon, int i) throws NoSuchElementException {
        if (!hasCell(cell) || horizon < 1 || horizon > MOST_HORIZON || i < 0 || i >= horizon) {
            throw new NoSuchElementException("no such world");
        }
        return readyPayments(horizon).hardest(cell, horizon, i);
    }

    public int margin(int cell) {
        if (!hasCell(cell)) {
            return NONE;
        }
        readySafety().settleMargins();
        return safety.margins[cell];
    }

    // ---- ranks and gains

    public int rank(boolean seeing) {
        if (!standing) {
            return refused(ABSENT);
        }
        if (!linear.holds()) {
            return refused(NOT_SO);
        }
        trouble = 0;
        return linear.rankOf(seeing);
    }

    public int form(int power) {
        if (!standing) {
            trouble = ABSENT;
            return NO_VALUE;
        }
        if (power < 0 || power > thing.many[STATE]) {
            trouble = NUMBER;
            return NO_VALUE;
        }
        if (!linear.holds()) {
            trouble = NOT_SO;
            return NO_VALUE;
        }
        trouble = 0;
        return (int) linear.form[power];
    }

    public int place(int zero, int one, int two) {
        if (!standing) {
            return refused(ABSENT);
        }
        int states = thing.many[STATE];
        if (beyond(zero, MOST_TOLD) || states > 1 && beyond(one, MOST_TOLD)
                || states > 2 && beyond(two, MOST_TOLD)) {
            return refused(NUMBER);
        }
        if (!linear.holds() || thing.many[PUSH] != 1 || linear.rankOf(false) != states) {
            return refused(NOT_SO);
        }
        trouble = 0;
        linear.solve(zero, one, two);
        return states;
    }

    public long gain(int i, boolean denominator) {
        if (i < 0 || i >= linear.gains) {
            return NO_GAIN;
        }
        return denominator ? linear.bottoms[i] : linear.tops[i];
    }

    public int stays(int zero, int one, int two, int three) {
        boolean far = beyond(zero, MOST_TOLD) || beyond(one, MOST_TOLD)
                || beyond(two, MOST_TOLD) || beyond(three, MOST_TOLD);
        if (far || (zero | one | two | three) == 0) {
            return refused(NUMBER);
        }
        trouble = 0;
        return linear.rootsWithin(zero, one, two, three) ? 1 : 0;
    }

    // ---- the watcher

    public int tick(int push) {
        if (!hasPush(push)) {
            return refused(ABSENT);
        }
        if (watcher.ticks >= MOST_TICKS) {
            return refused(ROOM);
        }
        trouble = 0;
        return watcher.take(push);
    }

    public boolean told(int tick, int sight, int value) {
        boolean known = standing && tick >= 0 && tick <= watcher.ticks
                && sight >= 0 && sight < thing.many[SIGHT];
        if (!known) {
            trouble = ABSENT;
            return false;
        }
        if (watcher.hasSight(tick, sight)) {
            trouble = NOT_SO;
            return false;
        }
        trouble = 0;
        watcher.hear(tick, sight, value);
        return true;
    }

    public int can(int fault) {
        if (!standing || fault < 0 || fault > thing.many[PUSH] + thing.many[SIGHT]) {
            return refused(ABSENT);
        }
        trouble = 0;
        return readyWatcher().cellsBy(fault);
    }

    public int canBe(int cell) {
        if (!hasCell(cell)) {
            return NONE;
        }
        return readyWatcher().mayBe(cell) ? 1 : 0;
    }

    public int guess(int state, boolean most) {
        if (!standing || state < 0 || state >= thing.many[STATE]) {
            return NO_VALUE;
        }
        return readyWatcher().bound(state, most);
    }

    public int named() {
        if (!standing) {
            return refused(ABSENT);
        }
        trouble = 0;
        return readyWatcher().onlyFault();
    }

    public int known(int tick) {
        if (!standing || tick < 0 || tick > watcher.ticks) {
            return NONE;
        }
        return readyWatcher().cellsAsKnown(tick);
    }

    public int fit() {
        if (!standing) {
            return refused(ABSENT);
        }
        trouble = 0;
        return Integer.bitCount(readyWatcher().fitting());
    }

    public int probe(int cell) {
        if (!hasCell(cell)) {
            return refused(ABSENT);
        }
        int open = readySafety().open[cell];
        if (open == 0) {
            return refused(NOT_SO);
        }
        trouble = 0;
        return readyWatcher().telling(cell, open);
    }

    public int anew() {
        if (!standing) {
            return refused(ABSENT);
        }
        trouble = 0;
        int had = watcher.ticks;
        watcher.renew();
        return had;
    }

    // ---- code and claims

    public boolean code(int first, int second, int third, int bias, int shift) {
        if (!standing) {
            trouble = ABSENT;
            return false;
        }
        if (thing.many[PUSH] != 1) {
            trouble = NOT_SO;
            return false;
        }
        boolean brief = isShort(first) && isShort(second) && isShort(third) && isShort(bias);
        if (!brief || shift < 0 || shift > 7) {
            trouble = NUMBER;
            return false;
        }
        trouble = 0;
        proofs.setCode(first, second, third, bias, shift);
        return true;
    }

    public int coded(int cell) {
        if (!hasCell(cell)) {
            return refused(ABSENT);
        }
        if (thing.many[PUSH] != 1) {
            return refused(NOT_SO);
        }
        trouble = 0;
        return proofs.codePush(cell);
    }

    public int strays() {
        if (!standing) {
            return refused(ABSENT);
        }
        if (thing.many[PUSH] != 1) {
            return refused(NOT_SO);
        }
        trouble = 0;
        readySafety();
        return proofs.straying();
    }

    public int walk(int cell) {
        if (!hasCell(cell)) {
            return refused(ABSENT);
        }
        if (thing.many[PUSH] != 1) {
            return refused(NOT_SO);
        }
        trouble = 0;
        return proofs.round(cell);
    }

    public boolean claim(int cell, int ticks) {
        if (!hasCell(cell)) {
            trouble = ABSENT;
            return false;
        }
        if (ticks < NONE || ticks > MOST_TOLD) {
            trouble = NUMBER;
            return false;
        }
        trouble = 0;
        proofs.setClaim(cell, ticks);
        return true;
    }

    public int proved(int cell) {
        if (!hasCell(cell)) {
            return refused(ABSENT);
        }
        trouble = 0;
        moves.fill();
        return proofs.isClaimed(cell) && proofs.firstBreak() < 0 ? 1 : 0;
    }

    public int breaks() {
        if (!standing) {
            return refused(ABSENT);
        }
        trouble = 0;
        moves.fill();
        return proofs.firstBreak();
    }

    public int trouble() {
        return trouble;
    }

    // ---- within

    private int refused(int number) {
        trouble = number;
        return NONE;
    }

    private void takeFour(int four) {
        for (int shift = 24; shift >= 0; shift -= 8) {
            if (bytes < MOST_BYTES) {
                tape[bytes] = (four >> shift) & 255;
                bytes++;
            }
        }
    }

    private boolean wishReadable(int n) {
        if (!standing) {
            trouble = ABSENT;
            return false;
        }
        if (n < 0 || n > bytes) {
            trouble = NUMBER;
            return false;
        }
        return true;
    }

    /** A text that was read leaves the tape whether it was fine or not; only a refusal ahead keeps it. */
    private boolean settled(boolean fine) {
        bytes = 0;
        fault = fine ? 0 : reader.fault;
        place = fine ? NONE : reader.place;
        trouble = fine ? 0 : FAULT;
        return fine;
    }

    private boolean hasCell(int cell) {
        return standing && cell >= 0 && cell < thing.cells;
    }

    private boolean hasPush(int push) {
        return standing && push >= 0 && push < thing.pushes;
    }

    private boolean hasMove(int cell, int push, int world) {
        return hasCell(cell) && hasPush(push) && world >= 0 && world < thing.worlds;
    }

    private static boolean beyond(int number, int most) {
        return number < -most || number > most;
    }

    private static boolean isShort(int number) {
        return number >= -128 && number <= 127;
    }

    // The tables are filled from here, not from where they are used, so that calls stay few deep.

    private Safety readySafety() {
        moves.fill();
        safety.settle();
        return safety;
    }

    private Wishes readyReaches() {
        moves.fill();
        wishes.settleReaches();
        return wishes;
    }

    private Payments readyPayments(int horizon) {
        moves.fill();
        payments.settle(horizon);
        return payments;
    }

    private Watcher readyWatcher() {
        moves.fill();
        return watcher;
    }

    /** A row that is long enough; what stood in a shorter one is not kept, as all is worked out anew then. */
    private static int[] longEnough(int[] row, int need) {
        return row.length >= need ? row : new int[Math.max(need, 2 * row.length)];
    }

    /** The sums and tests of one text: factors in a row, each with the sign ahead of it. */
    private static final class Formulas {
        private static final int PLUS = 0;
        private static final int MINUS = 1;
        private static final int TIMES = 2;
        private static final int MOST_FACTORS = 60;
        private static final int MOST_ONES = MOST_FACTORS / 2;

        private int factors;
        private final int[] joins = new int[MOST_FACTORS];
        private final int[] slots = new int[MOST_FACTORS];
        private final int[] wholes = new int[MOST_FACTORS];
        private int ones;
        private final int[] starts = new int[MOST_ONES];
        private final int[] middles = new int[MOST_ONES];
        private final int[] ends = new int[MOST_ONES];
        private final int[] relations = new int[MOST_ONES];

        private void clear() {
            factors = 0;
            ones = 0;
        }

        private boolean isFull() {
            return factors >= MOST_FACTORS;
        }

        private void addFactor(int join, int slot, int whole) {
            joins[factors] = join;
            slots[factors] = slot;
            wholes[factors] = whole;
            factors++;
        }

        /** Each ONE has two factors at least, so there is room for it as long as there was for them. */
        private void addOne(int start, int middle, int relation) {
            if (ones < MOST_ONES) {
                starts[ones] = start;
                middles[ones] = middle;
                ends[ones] = factors;
                relations[ones] = relation;
                ones++;
            }
        }

        private void take(Formulas other) {
            factors = other.factors;
            ones = other.ones;
            System.arraycopy(other.joins, 0, joins, 0, MOST_FACTORS);
            System.arraycopy(other.slots, 0, slots, 0, MOST_FACTORS);
            System.arraycopy(other.wholes, 0, wholes, 0, MOST_FACTORS);
            System.arraycopy(other.starts, 0, starts, 0, MOST_ONES);
            System.arraycopy(other.middles, 0, middles, 0, MOST_ONES);
            System.arraycopy(other.ends, 0, ends, 0, MOST_ONES);
            System.arraycopy(other.relations, 0, relations, 0, MOST_ONES);
        }

        /** Bound behind each sign by hand, as this stands deep under other calls and is asked most. */
        private int sumOf(int from, int to, int[] values) {
            int total = 0;
            int term = 0;
            boolean minus = false;
            for (int i = from; i < to; i++) {
                int factor = slots[i] < 0 ? wholes[i] : values[slots[i]];
                if (joins[i] == TIMES) {
                    term *= factor;
                    term = term > MOST_SUM ? MOST_SUM : term < -MOST_SUM ? -MOST_SUM : term;
                } else {
                    total += minus ? -term : term;
                    total = total > MOST_SUM ? MOST_SUM : total < -MOST_SUM ? -MOST_SUM : total;
                    term = factor;
                    minus = joins[i] == MINUS;
                }
            }
            total += minus ? -term : term;
            return total > MOST_SUM ? MOST_SUM : total < -MOST_SUM ? -MOST_SUM : total;
        }

        private boolean allHold(int from, int to, int[] values) {
            for (int i = from; i < to; i++) {
                int left = sumOf(starts[i], middles[i], values);
                int right = sumOf(middles[i], ends[i], values);
                boolean one = relations[i] == '<' ? left < right
                        : relations[i] == '>' ? left > right : left == right;
                if (!one) {
                    return false;
                }
            }
            return true;
        }
    }

    /** A thing as its text tells it: names, spans, steps, sights. */
    private static final class Model {
        private static final int MOST_STEPS = 8;

        private final int[] many = new int[5];
        private final long[] names = new long[11];
        private final int[] low = new int[SLOTS];
        private final int[] high = new int[SLOTS];
        private int steps;
        private final int[] stepStates = new int[MOST_STEPS];
        private final int[] stepFrom = new int[MOST_STEPS];
        private final int[] stepTo = new int[MOST_STEPS];
        private final int[] testFrom = new int[MOST_STEPS];
        private final int[] testTo = new int[MOST_STEPS];
        private final int[] sightFrom = new int[2];
        private final int[] sightTo = new int[2];
        private int cells;
        private int pushes;
        private int worlds;
        private int numParts = 1;
        private final Formulas formulas = new Formulas();

        private void clear() {
            Arrays.fill(many, 0);
            steps = 0;
            formulas.clear();
        }

        private void take(Model other) {
            System.arraycopy(other.many, 0, many, 0, many.length);
            System.arraycopy(other.names, 0, names, 0, names.length);
            System.arraycopy(other.low, 0, low, 0, SLOTS);
            System.arraycopy(other.high, 0, high, 0, SLOTS);
            steps = other.steps;
            System.arraycopy(other.stepStates, 0, stepStates, 0, MOST_STEPS);
            System.arraycopy(other.stepFrom, 0, stepFrom, 0, MOST_STEPS);
            System.arraycopy(other.stepTo, 0, stepTo, 0, MOST_STEPS);
            System.arraycopy(other.testFrom, 0, testFrom, 0, MOST_STEPS);
            System.arraycopy(other.testTo, 0, testTo, 0, MOST_STEPS);
            System.arraycopy(other.sightFrom, 0, sightFrom, 0, sightFrom.length);
            System.arraycopy(other.sightTo, 0, sightTo, 0, sightTo.length);
            formulas.take(other.formulas);
            measure();
        }

        private void measure() {
            cells = parts(STATE, 0);
            pushes = parts(PUSH, 0);
            numParts = parts(NUM, 0);
            worlds = parts(WORLD, 0) * numParts;
        }

        private boolean fits() {
            measure();
            return many[STATE] > 0 && cells <= MOST_CELLS && pushes <= MOST_PUSHES
                    && worlds <= MOST_WORLDS;
        }

        private int slotOf(long name) {
            for (int kind = 0; kind < many.length; kind++) {
                for (int i = 0; i < many[kind]; i++) {
                    if (names[BASE[kind] + i] == name) {
                        return BASE[kind] + i;
                    }
                }
            }
            return NONE;
        }

        private int addName(int kind, long name) {
            int slot = BASE[kind] + many[kind];
            names[slot] = name;
            many[kind]++;
            return slot;
        }

        private void addStep(int slot, int start, int end, int firstOne) {
            stepStates[steps] = slot;
            stepFrom[steps] = start;
            stepTo[steps] = end;
            testFrom[steps] = firstOne;
            testTo[steps] = formulas.ones;
            steps++;
        }

        /** At least 1, so that it can divide. */
        private int width(int slot, int wider) {
            int width = high[slot] - low[slot] + 1 + 2 * wider;
            return width > 0 ? width : 1;
        }

        private int parts(int kind, int wider) {
            int product = 1;
            for (int i = 0; i < many[kind]; i++) {
                product *= width(BASE[kind] + i, wider);
            }
            return product;
        }

        private void spread(int kind, int index, int wider, int[] values) {
            int left = index;
            for (int slot = BASE[kind] + many[kind] - 1; slot >= BASE[kind]; slot--) {
                int width = width(slot, wider);
                values[slot] = low[slot] - wider + left % width;
                left /= width;
            }
        }

        private void spreadWorld(int world, int wider, int[] values) {
            int nums = Math.max(1, numParts);
            spread(WORLD, world / nums, wider, values);
            spread(NUM, world % nums, 0, values);
        }

        /** Whether one of the worlds stands where only spans that are made so much wider let it. */
        private boolean isEdge(int wider, int[] values) {
            for (int slot = BASE[WORLD]; slot < BASE[WORLD] + many[WORLD]; slot++) {
                if (values[slot] == low[slot] - wider || values[slot] == high[slot] + wider) {
                    return true;
                }
            }
            return false;
        }

        private void spreadMove(int cell, int push, int world, int[] values) {
            spread(STATE, cell, 0, values);
            spread(PUSH, push, 0, values);
            spreadWorld(world, 0, values);
        }

        private int cellOf(int[] values) {
            int cell = 0;
            for (int i = 0; i < many[STATE]; i++) {
                if (values[i] < low[i] || values[i] > high[i]) {
                    return OUT;
                }
                cell = cell * width(i, 0) + values[i] - low[i];
            }
            return cell;
        }

        private int lead(int[] values) {
            int cell = 0;
            for (int i = 0; i < many[STATE]; i++) {
                int value = stepped(i, values);
                if (value < low[i] || value > high[i]) {
                    return OUT;
                }
                cell = cell * width(i, 0) + value - low[i];
            }
            return cell;
        }

        private int stepped(int state, int[] values) {
            for (int i = 0; i < steps; i++) {
                if (stepStates[i] == state && formulas.allHold(testFrom[i], testTo[i], values)) {
                    return formulas.sumOf(stepFrom[i], stepTo[i], values);
                }
            }
            return values[state];
        }

        private int seen(int sight, int[] values) {
            return formulas.sumOf(sightFrom[sight], sightTo[sight], values);
        }

        /** The push that is done if one of its parts fails: that part is 0, or as near to it as it can be. */
        private int failing(int push, int part, int[] values) {
            int slot = BASE[PUSH] + part;
            spread(PUSH, push, 0, values);
            values[slot] = Math.max(low[slot], Math.min(high[slot], 0));
            int index = 0;
            for (int i = 0; i < many[PUSH]; i++) {
                int each = BASE[PUSH] + i;
                index = index * width(each, 0) + values[each] - low[each];
            }
            return index;
        }
    }

    /** A text cut into tokens; a sign is its own kind. */
    private static final class Tokens {
        private static final int END = 0;
        private static final int WORD = 1;
        private static final int WHOLE = 2;
        private static final int BAD = 3;
        private static final int MOST_LETTERS = 8;
        private static final int MOST_DIGITS = 3;

        private int count;
        private final int[] kinds = new int[MOST_BYTES + 1];
        private final int[] places = new int[MOST_BYTES + 1];
        private final long[] meanings = new long[MOST_BYTES + 1];

        private void cut(int[] tape, int n) {
            count = 0;
            int at = 0;
            for (int i = 0; i < n && at < n; i++) {
                int sign = tape[at];
                if (sign == ' ') {
                    at++;
                } else if (isLetter(sign)) {
                    at = cutWord(tape, at, n);
                } else if (isDigit(sign)) {
                    at = cutWhole(tape, at, n);
                } else {
                    add(isSign(sign) ? sign : BAD, at, 0);
                    at++;
                }
            }
            add(END, n, 0);
        }

        private int cutWord(int[] tape, int from, int n) {
            int at = from;
            long name = 0;
            while (at < n && isLetter(tape[at])) {
                name = name * 27 + tape[at] - 'a' + 1;
                at++;
            }
            add(at - from <= MOST_LETTERS ? WORD : BAD, from, name);
            return at;
        }

        private int cutWhole(int[] tape, int from, int n) {
            int at = from;
            long whole = 0;
            while (at < n && isDigit(tape[at])) {
                whole = whole * 10 + tape[at] - '0';
                at++;
            }
            add(at - from <= MOST_DIGITS ? WHOLE : BAD, from, whole);
            return at;
        }

        private void add(int kind, int place, long meaning) {
            if (count <= MOST_BYTES) {
                kinds[count] = kind;
                places[count] = place;
                meanings[count] = meaning;
                count++;
            }
        }

        private static boolean isLetter(int sign) {
            return sign >= 'a' && sign <= 'z';
        }

        private static boolean isDigit(int sign) {
            return sign >= '0' && sign <= '9';
        }

        private static boolean isSign(int sign) {
            return sign == '<' || sign == '>' || sign == '=' || sign == '+'
                    || sign == '-' || sign == '*' || sign == ';';
        }
    }

    /** Reads texts from the left; the first thing that is wrong ends it, with its fault and place. */
    private static final class Reader {
        private static final int FORM = 1;
        private static final int UNTOLD = 2;
        private static final int ANEW = 3;
        private static final int SPAN = 4;
        private static final int MANY = 5;
        private static final int MOST_SPAN = 20;
        /** Words as numbers of base 27, a being 1: state, push, world, num, sight, to, if, and. */
        private static final long[] RESERVED = {10492313L, 330758L, 12531838L, 10786L, 10279865L, 555L, 249L, 1111L};
        private static final int KINDS = 5;
        private static final int TO = 5;
        private static final int IF = 6;
        private static final int AND = 7;

        private int fault;
        private int place;
        private int at;
        private int whole;
        private int permitted;
        private Model model;
        private Formulas formulas;
        private final Tokens tokens = new Tokens();

        private Reader(Model draft) {
            model = draft;
            formulas = draft.formulas;
        }

        private boolean readThing(int[] tape, int n, Model draft) {
            draft.clear();
            begin(tape, n, draft, draft.formulas);
            permitted = SLOTS;
            for (int lines = 0; lines <= MOST_BYTES; lines++) {
                if (!line()) {
                    return false;
                }
                if (kind() == Tokens.END) {
                    return draft.fits() || fail(MANY);
                }
                if (!pass(';')) {
                    return false;
                }
            }
            return fail(FORM);
        }

        private boolean readTest(int[] tape, int n, Model names, Formulas into) {
            into.clear();
            begin(tape, n, names, into);
            permitted = BASE[PUSH];
            return test() && (kind() == Tokens.END || fail(FORM));
        }

        private boolean readSum(int[] tape, int n, Model names, Formulas into) {
            into.clear();
            begin(tape, n, names, into);
            permitted = BASE[WORLD];
            return sum() && (kind() == Tokens.END || fail(FORM));
        }

        private void begin(int[] tape, int n, Model names, Formulas into) {
            tokens.cut(tape, n);
            at = 0;
            fault = 0;
            place = NONE;
            model = names;
            formulas = into;
        }

        private boolean line() {
            if (kind() != Tokens.WORD) {
                return fail(FORM);
            }
            int word = reserved();
            if (word >= 0 && word < KINDS) {
                at++;
                return word == SIGHT ? sightLine() : spanLine(word);
            }
            int slot = model.slotOf(meaning());
            if (slot < 0 || slot >= BASE[PUSH]) {
                return fail(UNTOLD);
            }
            return stepLine(slot);
        }

        private boolean spanLine(int kind) {
            if (!newName(kind)) {
                return false;
            }
            int slot = model.addName(kind, meaning());
            at++;
            if (!integer()) {
                return false;
            }
            int first = whole;
            if (!isWord(TO)) {
                return fail(FORM);
            }
            int to = at;
            if (first < -MOST_SPAN || first > MOST_SPAN) {
                return fail(SPAN);
            }
            at++;
            if (!integer()) {
                return false;
            }
            if (whole > MOST_SPAN || whole < first) {
                at = to;
                return fail(SPAN);
            }
            model.low[slot] = first;
            model.high[slot] = whole;
            return true;
        }

        private boolean sightLine() {
            if (!newName(SIGHT)) {
                return false;
            }
            int sight = model.addName(SIGHT, meaning()) - BASE[SIGHT];
            at++;
            int start = formulas.factors;
            if (!pass('=') || !sum()) {
                return false;
            }
            model.sightFrom[sight] = start;
            model.sightTo[sight] = formulas.factors;
            return true;
        }

        private boolean stepLine(int slot) {
            if (model.steps >= Model.MOST_STEPS) {
                return fail(MANY);
            }
            at++;
            int start = formulas.factors;
            if (!pass('=') || !sum()) {
                return false;
            }
            int end = formulas.factors;
            int firstOne = formulas.ones;
            if (isWord(IF)) {
                at++;
                if (!test()) {
                    return false;
                }
            }
            model.addStep(slot, start, end, firstOne);
            return true;
        }

        private boolean newName(int kind) {
            if (kind() != Tokens.WORD) {
                return fail(FORM);
            }
            if (reserved() >= 0 || model.slotOf(meaning()) >= 0) {
                return fail(ANEW);
            }
            return model.many[kind] < MOST[kind] || fail(MANY);
        }

        private boolean integer() {
            boolean minus = kind() == '-';
            if (minus) {
                at++;
            }
            if (kind() != Tokens.WHOLE) {
                return fail(FORM);
            }
            whole = (int) (minus ? -meaning() : meaning());
            at++;
            return true;
        }

        private boolean test() {
            for (int i = 0; i <= Formulas.MOST_ONES; i++) {
                int start = formulas.factors;
                if (!sum()) {
                    return false;
                }
                int middle = formulas.factors;
                int relation = kind();
                if (relation != '<' && relation != '>' && relation != '=') {
                    return fail(FORM);
                }
                at++;
                if (!sum()) {
                    return false;
                }
                formulas.addOne(start, middle, relation);
                if (!isWord(AND)) {
                    return true;
                }
                at++;
            }
            return fail(FORM);
        }

        private boolean sum() {
            int join = Formulas.PLUS;
            if (kind() == '-') {
                join = Formulas.MINUS;
                at++;
            }
            for (int i = 0; i <= Formulas.MOST_FACTORS; i++) {
                if (!factor(join)) {
                    return false;
                }
                int sign = kind();
                if (sign != '+' && sign != '-' && sign != '*') {
                    return true;
                }
                join = sign == '+' ? Formulas.PLUS : sign == '-' ? Formulas.MINUS : Formulas.TIMES;
                at++;
            }
            return fail(FORM);
        }

        private boolean factor(int join) {
            boolean number = kind() == Tokens.WHOLE;
            if (!number && (kind() != Tokens.WORD || reserved() >= 0)) {
                return fail(FORM);
            }
            int slot = number ? NONE : model.slotOf(meaning());
            if (!number && (slot < 0 || slot >= permitted)) {
                return fail(UNTOLD);
            }
            if (formulas.isFull()) {
                return fail(MANY);
            }
            formulas.addFactor(join, slot, number ? (int) meaning() : 0);
            at++;
            return true;
        }

        /** Behind the end there is only the end. */
        private int kind() {
            return at < tokens.count ? tokens.kinds[at] : Tokens.END;
        }

        private long meaning() {
            return at < tokens.count ? tokens.meanings[at] : 0;
        }

        private int reserved() {
            long word = at < tokens.count ? tokens.meanings[at] : 0;
            for (int i = 0; i < RESERVED.length; i++) {
                if (RESERVED[i] == word) {
                    return i;
                }
            }
            return NONE;
        }

        private boolean isWord(int which) {
            return kind() == Tokens.WORD && reserved() == which;
        }

        private boolean pass(int sign) {
            if (kind() != sign) {
                return fail(FORM);
            }
            at++;
            return true;
        }

        private boolean fail(int number) {
            fault = number;
            place = at < tokens.count ? tokens.places[at] : NONE;
            return false;
        }
    }

    /** Where every cell leads by every push and world, and, as bits, all that a push may lead to. */
    private static final class Moves {
        private final Model thing;
        private final int[] values = new int[SLOTS];
        private boolean filled;
        private int words;
        private int[] leads = new int[0];
        private int[] reach = new int[0];

        private Moves(Model thing) {
            this.thing = thing;
        }

        private void forget() {
            filled = false;
            words = thing.cells / 32 + 1;
        }

        private void fill() {
            if (filled) {
                return;
            }
            filled = true;
            int rows = thing.cells * thing.pushes;
            leads = longEnough(leads, rows * thing.worlds);
            reach = longEnough(reach, rows * words);
            Arrays.fill(reach, 0, rows * words, 0);
            for (int world = 0; world < thing.worlds; world++) {
                thing.spreadWorld(world, 0, values);
                for (int push = 0; push < thing.pushes; push++) {
                    thing.spread(PUSH, push, 0, values);
                    fillCells(push, world);
                }
            }
        }

        private void fillCells(int push, int world) {
            for (int cell = 0; cell < thing.cells; cell++) {
                thing.spread(STATE, cell, 0, values);
                int next = thing.lead(values);
                int row = cell * thing.pushes + push;
                leads[row * thing.worlds + world] = next;
                mark(reach, row, next);
            }
        }

        /** Being out is one cell more, behind all others, that is in no set. */
        private void mark(int[] rows, int row, int next) {
            int bit = next < 0 ? thing.cells : next;
            rows[row * words + (bit >> 5)] |= 1 << (bit & 31);
        }

        private int leadOf(int cell, int push, int world) {
            return leads[(cell * thing.pushes + push) * thing.worlds + world];
        }
    }

    /** What is wished: good cells, the goal, costs; and in how many ticks the goal is reached. */
    private static final class Wishes {
        private final Model thing;
        private final Moves moves;
        private final int[] values = new int[SLOTS];
        private int goodCells;
        private final int[] good = new int[MOST_WORDS];
        private final int[] goal = new int[MOST_WORDS];
        private int[] costs = new int[0];
        private boolean settled;
        private final int[] reaches = new int[MOST_CELLS];
        private final int[] laws = new int[MOST_CELLS];
        private final int[] done = new int[MOST_WORDS];
        private int[] watched = new int[0];

        private Wishes(Model thing, Moves moves) {
            this.thing = thing;
            this.moves = moves;
        }

        private void renew() {
            Arrays.fill(good, 0);
            Arrays.fill(goal, 0);
            costs = longEnough(costs, thing.cells * thing.pushes);
            Arrays.fill(costs, 0);
            for (int cell = 0; cell < thing.cells; cell++) {
                good[cell >> 5] |= 1 << (cell & 31);
            }
            goodCells = thing.cells;
            settled = false;
        }

        private void setGood(Formulas wish) {
            goodCells = markAll(wish, good);
            settled = false;
        }

        private int setGoal(Formulas wish) {
            settled = false;
            return markAll(wish, goal);
        }

        private int markAll(Formulas wish, int[] set) {
            int marked = 0;
            Arrays.fill(set, 0);
            for (int cell = 0; cell < thing.cells; cell++) {
                thing.spread(STATE, cell, 0, values);
                if (wish.allHold(0, wish.ones, values)) {
                    set[cell >> 5] |= 1 << (cell & 31);
                    marked++;
                }
            }
            return marked;
        }

        private void setCosts(Formulas wish) {
            for (int push = 0; push < thing.pushes; push++) {
                thing.spread(PUSH, push, 0, values);
                for (int cell = 0; cell < thing.cells; cell++) {
                    thing.spread(STATE, cell, 0, values);
                    int paid = wish.sumOf(0, wish.factors, values);
                    costs[cell * thing.pushes + push] = Math.max(0, Math.min(MOST_COST, paid));
                }
            }
        }

        private boolean isGood(int cell) {
            return (good[cell >> 5] >> (cell & 31) & 1) != 0;
        }

        private boolean isGoal(int cell) {
            return (goal[cell >> 5] >> (cell & 31) & 1) != 0;
        }

        private void settleReaches() {
            if (settled) {
                return;
            }
            settled = true;
            watched = longEnough(watched, thing.cells * thing.pushes);
            Arrays.fill(watched, 0);
            Arrays.fill(laws, -2);
            for (int word = 0; word < MOST_WORDS; word++) {
                done[word] = good[word] & goal[word];
            }
            for (int cell = 0; cell < thing.cells; cell++) {
                reaches[cell] = isGood(cell) && isGoal(cell) ? 0 : -2;
            }
            boolean more = true;
            for (int round = 1; more && round <= thing.cells; round++) {
                more = reachRound(round);
            }
        }

        private boolean reachRound(int round) {
            for (int cell = 0; cell < thing.cells; cell++) {
                if (reaches[cell] == -2 && isGood(cell)) {
                    laws[cell] = pushIntoDone(cell);
                    reaches[cell] = laws[cell] < 0 ? -2 : round;
                }
            }
            boolean more = false;
            for (int cell = 0; cell < thing.cells; cell++) {
                if (reaches[cell] == round) {
                    done[cell >> 5] |= 1 << (cell & 31);
                    more = true;
                }
            }
            return more;
        }

        /** What is done only grows, so a word of a row that once lay in it isn't looked at again. */
        private int pushIntoDone(int cell) {
            for (int push = 0; push < thing.pushes; push++) {
                int row = cell * thing.pushes + push;
                int word = watched[row];
                while (word < moves.words && (moves.reach[row * moves.words + word] & ~done[word]) == 0) {
                    word++;
                }
                watched[row] = word;
                if (word == moves.words) {
                    return push;
                }
            }
            return -2;
        }
    }

    /** Which cells are safe, by which pushes, and how much wider the world may be. */
    private static final class Safety {
        private final Model thing;
        private final Moves moves;
        private final Wishes wishes;
        private final int[] values = new int[SLOTS];
        private boolean settled;
        private boolean widened;
        private int safeCells;
        private final int[] layers = new int[MOST_CELLS];
        private final int[] open = new int[MOST_CELLS];
        private final int[] margins = new int[MOST_CELLS];
        private final int[] wideOpen = new int[MOST_CELLS];
        private int[] wideReach = new int[0];
        private final int[] gone = new int[MOST_WORDS];
        private final int[] fresh = new int[MOST_WORDS];

        private Safety(Model thing, Moves moves, Wishes wishes) {
            this.thing = thing;
            this.moves = moves;
            this.wishes = wishes;
        }

        private void forget() {
            settled = false;
            widened = false;
        }

        private void settle() {
            if (settled) {
                return;
            }
            settled = true;
            safeCells = wishes.goodCells;
            for (int cell = 0; cell < thing.cells; cell++) {
                open[cell] = wishes.isGood(cell) ? (1 << thing.pushes) - 1 : 0;
                layers[cell] = 0;
            }
            for (int word = 0; word < MOST_WORDS; word++) {
                gone[word] = ~wishes.good[word];
            }
            int went = 1;
            for (int round = 1; went > 0 && round <= thing.cells + 1; round++) {
                went = shrink(moves.reach, open);
                safeCells -= went;
                nameLayer(round);
            }
        }

        /** Drops pushes that may lead to what went, and cells that have none left: how many went now. */
        private int shrink(int[] rows, int[] pushes) {
            int went = 0;
            Arrays.fill(fresh, 0);
            int first = 0;
            while (first < moves.words && gone[first] == 0) {
                first++;
            }
            int last = moves.words - 1;
            while (last > first && gone[last] == 0) {
                last--;
            }
            for (int cell = 0; cell < thing.cells; cell++) {
                if (pushes[cell] != 0) {
                    pushes[cell] = keptPushes(rows, cell, pushes[cell], first, last);
                    if (pushes[cell] == 0) {
                        fresh[cell >> 5] |= 1 << (cell & 31);
                        went++;
                    }
                }
            }
            System.arraycopy(fresh, 0, gone, 0, MOST_WORDS);
            return went;
        }

        private int keptPushes(int[] rows, int cell, int pushes, int first, int last) {
            int kept = pushes;
            for (int push = 0; push < thing.pushes; push++) {
                int start = (cell * thing.pushes + push) * moves.words;
                for (int word = first; word <= last && (kept >> push & 1) != 0; word++) {
                    if ((rows[start + word] & gone[word]) != 0) {
                        kept &= ~(1 << push);
                    }
                }
            }
            return kept;
        }

        private void nameLayer(int round) {
            for (int cell = 0; cell < thing.cells; cell++) {
                if ((gone[cell >> 5] >> (cell & 31) & 1) != 0) {
                    layers[cell] = round;
                }
            }
        }

        private void settleMargins() {
            if (widened) {
                return;
            }
            widened = true;
            System.arraycopy(open, 0, wideOpen, 0, thing.cells);
            int need = thing.cells * thing.pushes * moves.words;
            wideReach = longEnough(wideReach, need);
            System.arraycopy(moves.reach, 0, wideReach, 0, need);
            for (int cell = 0; cell < thing.cells; cell++) {
                margins[cell] = open[cell] == 0 ? -2 : 0;
            }
            for (int wider = 1; wider <= 2; wider++) {
                widen(wider);
                for (int cell = 0; cell < thing.cells; cell++) {
                    if (wideOpen[cell] != 0) {
                        margins[cell] = wider;
                    }
                }
            }
        }

        /** A wider world leaves no cell safe that wasn't, so only what is left is looked at. */
        private void widen(int wider) {
            for (int cell = 0; cell < thing.cells; cell++) {
                for (int push = 0; push < thing.pushes; push++) {
                    if ((wideOpen[cell] >> push & 1) != 0 && !staysByWider(cell, push, wider)) {
                        wideOpen[cell] &= ~(1 << push);
                    }
                }
            }
            Arrays.fill(gone, -1);
            for (int cell = 0; cell < thing.cells; cell++) {
                if (wideOpen[cell] != 0) {
                    gone[cell >> 5] &= ~(1 << (cell & 31));
                }
            }
            int went = 1;
            for (int round = 0; went > 0 && round <= thing.cells; round++) {
                went = shrink(wideReach, wideOpen);
            }
        }

        /** Adds to what a push may lead to by narrower worlds what it may by those that are new now. */
        private boolean staysByWider(int cell, int push, int wider) {
            int worlds = thing.parts(WORLD, wider) * thing.numParts;
            thing.spread(STATE, cell, 0, values);
            thing.spread(PUSH, push, 0, values);
            for (int world = 0; world < worlds; world++) {
                thing.spreadWorld(world, wider, values);
                if (thing.isEdge(wider, values)) {
                    int next = thing.lead(values);
                    if (next < 0 || wideOpen[next] == 0) {
                        return false;
                    }
                    moves.mark(wideReach, cell * thing.pushes + push, next);
                }
            }
            return true;
        }
    }

    /** What is paid at the worst over horizons, and by which law. */
    private static final class Payments {
        private final Model thing;
        private final Moves moves;
        private final Wishes wishes;
        private int horizons = -1;
        private int[] amounts = new int[0];
        private int[] laws = new int[0];

        private Payments(Model thing, Moves moves, Wishes wishes) {
            this.thing = thing;
            this.moves = moves;
            this.wishes = wishes;
        }

        private void forget() {
            horizons = -1;
        }

        private void settle(int horizon) {
            amounts = longEnough(amounts, (MOST_HORIZON + 1) * thing.cells);
            laws = longEnough(laws, (MOST_HORIZON + 1) * thing.cells);
            for (int h = horizons + 1; h <= horizon; h++) {
                for (int cell = 0; cell < thing.cells; cell++) {
                    int at = h * thing.cells + cell;
                    laws[at] = -2;
                    amounts[at] = wishes.isGood(cell) ? 0 : LOST;
                    if (h > 0 && wishes.isGood(cell)) {
                        choose(cell, h);
                    }
                }
                horizons = h;
            }
        }

        private void choose(int cell, int h) {
            int least = LOST + 1;
            int law = 0;
            for (int push = 0; push < thing.pushes; push++) {
                int amount = wishes.costs[cell * thing.pushes + push];
                amount = Math.min(LOST, amount + mostBehind(cell, push, h));
                if (amount < least) {
                    least = amount;
                    law = push;
                }
            }
            amounts[h * thing.cells + cell] = least;
            laws[h * thing.cells + cell] = law;
        }

        private int mostBehind(int cell, int push, int h) {
            int most = 0;
            for (int world = 0; world < thing.worlds && most < LOST; world++) {
                most = Math.max(most, behind(cell, push, world, h));
            }
            return most;
        }

        private int behind(int cell, int push, int world, int h) {
            int next = moves.leadOf(cell, push, world);
            return next < 0 ? LOST : amounts[(h - 1) * thing.cells + next];
        }

        private int paid(int cell, int horizon) {
            return amounts[horizon * thing.cells + cell];
        }

        private int lawOf(int cell, int horizon) {
            return laws[horizon * thing.cells + cell];
        }

        private int hardest(int cell, int horizon, int i) {
            int here = cell;
            int world = -2;
            for (int past = 0; past <= i; past++) {
                if (here < 0 || !wishes.isGood(here)) {
                    return -2;
                }
                int law = lawOf(here, horizon - past);
                world = hardestWorld(here, law, horizon - past);
                here = moves.leadOf(here, law, world);
            }
            return world;
        }

        private int hardestWorld(int cell, int push, int h) {
            int hardest = 0;
            int most = -1;
            for (int world = 0; world < thing.worlds; world++) {
                int amount = behind(cell, push, world, h);
                if (amount > most) {
                    most = amount;
                    hardest = world;
                }
            }
            return hardest;
        }
    }

    /** Ranks, forms and gains of a linear thing; all of it in whole numbers that a long can hold. */
    private static final class Linear {
        private final Model thing;
        private boolean looked;
        private boolean linear;
        private final int[] a = new int[9];
        private final int[] b = new int[6];
        private final int[] c = new int[6];
        private final long[] form = new long[4];
        private final long[] rows = new long[18];
        private int gains;
        private final long[] tops = new long[3];
        private final long[] bottoms = new long[3];
        private final long[] right = new long[3];
        private final long[] now = new long[4];
        private final long[] then = new long[4];

        private Linear(Model thing) {
            this.thing = thing;
        }

        private void forget() {
            looked = false;
        }

        private boolean holds() {
            if (!looked) {
                looked = true;
                linear = look();
                findForm();
            }
            return linear;
        }

        private boolean look() {
            Arrays.fill(a, 0);
            Arrays.fill(b, 0);
            Arrays.fill(c, 0);
            int stepped = 0;
            for (int i = 0; i < thing.steps; i++) {
                int state = thing.stepStates[i];
                boolean tested = thing.testTo[i] > thing.testFrom[i];
                if (tested || (stepped >> state & 1) != 0) {
                    return false;
                }
                stepped |= 1 << state;
                if (!addTerms(thing.stepFrom[i], thing.stepTo[i], state, false)) {
                    return false;
                }
            }
            for (int i = 0; i < thing.many[STATE]; i++) {
                if ((stepped >> i & 1) == 0) {
                    a[i * 3 + i] = 1;
                }
            }
            for (int i = 0; i < thing.many[SIGHT]; i++) {
                if (!addTerms(thing.sightFrom[i], thing.sightTo[i], i, true)) {
                    return false;
                }
            }
            return allNear(a) && allNear(b) && allNear(c);
        }

        private boolean addTerms(int from, int to, int row, boolean seeing) {
            Formulas text = thing.formulas;
            int name = NONE;
            int amount = 0;
            for (int i = from; i < to; i++) {
                if (text.joins[i] != Formulas.TIMES) {
                    if (!addTerm(name, amount, row, seeing)) {
                        return false;
                    }
                    name = NONE;
                    amount = text.joins[i] == Formulas.MINUS ? -1 : 1;
                }
                int slot = text.slots[i];
                boolean moving = slot >= 0 && slot < BASE[NUM];
                if (moving && name >= 0) {
                    return false;
                }
                if (moving) {
                    name = slot;
                } else {
                    int by = slot < 0 ? text.wholes[i] : thing.low[slot];
                    amount = Math.max(-MOST_SUM, Math.min(MOST_SUM, amount * by));
                }
            }
            return addTerm(name, amount, row, seeing);
        }

        private boolean addTerm(int name, int amount, int row, boolean seeing) {
            if (name < 0) {
                return true;
            }
            if (amount < -MOST_FACTOR || amount > MOST_FACTOR) {
                return false;
            }
            if (name < BASE[PUSH]) {
                int[] into = seeing ? c : a;
                into[row * 3 + name] += amount;
            } else if (name < BASE[WORLD] && !seeing) {
                b[row * 2 + name - BASE[PUSH]] += amount;
            }
            return true;
        }

        private static boolean allNear(int[] numbers) {
            for (int number : numbers) {
                if (number < -MOST_FACTOR || number > MOST_FACTOR) {
                    return false;
                }
            }
            return true;
        }

        /** States that there aren't have only 0 in A, so the sums over all three serve fewer as well. */
        private void findForm() {
            int n = thing.many[STATE];
            long trace = a[0] + a[4] + a[8];
            long minors = a[0] * a[4] - a[1] * a[3] + a[0] * a[8] - a[2] * a[6] + a[4] * a[8] - a[5] * a[7];
            for (int i = 0; i < 9; i++) {
                rows[i] = a[i];
            }
            long all = determinant(0, 1, 2);
            Arrays.fill(form, 0);
            if (n >= 1) {
                form[n] = 1;
                form[n - 1] = -trace;
            }
            if (n >= 2) {
                form[n - 2] = minors;
            }
            if (n >= 3) {
                form[n - 3] = -all;
            }
        }

        private long determinant(int first, int second, int third) {
            int x = first * 3;
            int y = second * 3;
            int z = third * 3;
            return rows[x] * (rows[y + 1] * rows[z + 2] - rows[y + 2] * rows[z + 1])
                    - rows[x + 1] * (rows[y] * rows[z + 2] - rows[y + 2] * rows[z])
                    + rows[x + 2] * (rows[y] * rows[z + 1] - rows[y + 1] * rows[z]);
        }

        private int rankOf(boolean seeing) {
            int n = thing.many[STATE];
            int lines = seeing ? thing.many[SIGHT] : thing.many[PUSH];
            Arrays.fill(rows, 0);
            for (int line = 0; line < lines; line++) {
                for (int i = 0; i < n; i++) {
                    rows[line * 3 + i] = seeing ? c[line * 3 + i] : b[i * 2 + line];
                }
            }
            int count = lines * n;
            for (int line = lines; line < count; line++) {
                multiply(line - lines, line, seeing);
            }
            if (anyTriple(count)) {
                return 3;
            }
            if (anyPair(count)) {
                return 2;
            }
            return anyNumber() ? 1 : 0;
        }

        /** Row to is row from times A, from the left for sights, from the right for pushes. */
        private void multiply(int from, int to, boolean seeing) {
            for (int i = 0; i < 3; i++) {
                long sum = 0;
                for (int j = 0; j < 3; j++) {
                    sum += rows[from * 3 + j] * (seeing ? a[j * 3 + i] : a[i * 3 + j]);
                }
                rows[to * 3 + i] = sum;
            }
        }

        private boolean anyTriple(int count) {
            for (int x = 0; x < count; x++) {
                for (int y = x + 1; y < count; y++) {
                    for (int z = y + 1; z < count; z++) {
                        if (determinant(x, y, z) != 0) {
                            return true;
                        }
                    }
                }
            }
            return false;
        }

        private boolean anyPair(int count) {
            for (int x = 0; x < count; x++) {
                for (int y = x + 1; y < count; y++) {
                    if (minor(x, y, 0, 1) != 0 || minor(x, y, 0, 2) != 0 || minor(x, y, 1, 2) != 0) {
                        return true;
                    }
                }
            }
            return false;
        }

        private long minor(int x, int y, int i, int j) {
            return rows[x * 3 + i] * rows[y * 3 + j] - rows[x * 3 + j] * rows[y * 3 + i];
        }

        private boolean anyNumber() {
            for (long number : rows) {
                if (number != 0) {
                    return true;
                }
            }
            return false;
        }

        /**
         * The form of A + B K is the form of A less K times adj(z - A) B, whose parts of each power of z
         * follow one from the other; so the gains are the answer of as many equations as there are states.
         */
        private void solve(int zero, int one, int two) {
            int n = thing.many[STATE];
            Arrays.fill(rows, 0);
            for (int i = 0; i < n; i++) {
                rows[(n - 1) * 3 + i] = b[i * 2];
            }
            for (int power = n - 1; power > 0; power--) {
                multiply(power, power - 1, false);
                for (int i = 0; i < n; i++) {
                    rows[(power - 1) * 3 + i] += form[power] * b[i * 2];
                }
            }
            right[0] = form[0] - zero;
            right[1] = n > 1 ? form[1] - one : 0;
            right[2] = n > 2 ? form[2] - two : 0;
            for (int i = n; i < 3; i++) {
                rows[i * 3 + i] = 1;
            }
            long whole = determinant(0, 1, 2);
            gains = n;
            for (int i = 0; i < n; i++) {
                setGain(i, whole);
            }
        }

        private void setGain(int i, long whole) {
            swapColumn(i);
            long top = determinant(0, 1, 2);
            swapColumn(i);
            long shared = Math.max(1, sharedFactor(top, whole));
            long sign = whole < 0 ? -1 : 1;
            tops[i] = sign * (top / shared);
            bottoms[i] = sign * (whole / shared);
        }

        private void swapColumn(int i) {
            for (int k = 0; k < 3; k++) {
                long kept = rows[k * 3 + i];
                rows[k * 3 + i] = right[k];
                right[k] = kept;
            }
        }

        private static long sharedFactor(long x, long y) {
            long more = Math.abs(x);
            long less = Math.abs(y);
            for (int i = 0; i < 100 && less != 0; i++) {
                long rest = more % less;
                more = less;
                less = rest;
            }
            return more;
        }

        /** Schur and Cohn: each step takes one power away and keeps whether all roots lie within. */
        private boolean rootsWithin(int zero, int one, int two, int three) {
            now[0] = zero;
            now[1] = one;
            now[2] = two;
            now[3] = three;
            int n = three != 0 ? 3 : two != 0 ? 2 : one != 0 ? 1 : 0;
            for (int power = n; power > 0; power--) {
                if (Math.abs(now[0]) >= Math.abs(now[power])) {
                    return false;
                }
                for (int i = 1; power > 1 && i <= power; i++) {
                    then[i - 1] = now[power] * now[i] - now[0] * now[power - i];
                }
                System.arraycopy(then, 0, now, 0, power);
            }
            return true;
        }
    }

    /** Keeps all cells in which the thing can be, a lane for each fault; a bit is one choice of the nums. */
    private static final class Watcher {
        private static final int FAULTS = 5;
        private static final int KNOWN_LANE = 5;
        private static final int LANES = 6;
        private static final int SIGHTS = 2;

        private final Model thing;
        private final Moves moves;
        private final Wishes wishes;
        private final int[] values = new int[SLOTS];
        private int ticks;
        private final int[] pushes = new int[MOST_TICKS + 1];
        private final int[] told = new int[(MOST_TICKS + 1) * SIGHTS];
        private final int[] toldAt = new int[(MOST_TICKS + 1) * SIGHTS];
        private int[] masks = new int[0];
        private final int[] reached = new int[LANES];
        private int until;

        private Watcher(Model thing, Moves moves, Wishes wishes) {
            this.thing = thing;
            this.moves = moves;
            this.wishes = wishes;
        }

        private void renew() {
            ticks = 0;
            Arrays.fill(toldAt, NONE);
            forget();
        }

        private void forget() {
            Arrays.fill(reached, -1);
        }

        private int take(int push) {
            ticks++;
            pushes[ticks] = push;
            return ticks;
        }

        private boolean hasSight(int tick, int sight) {
            return toldAt[tick * SIGHTS + sight] >= 0;
        }

        private void hear(int tick, int sight, int value) {
            told[tick * SIGHTS + sight] = value;
            toldAt[tick * SIGHTS + sight] = ticks;
            for (int lane = 0; lane < LANES; lane++) {
                reached[lane] = Math.min(reached[lane], tick - 1);
            }
        }

        private int cellsBy(int fault) {
            bring(fault, fault, ticks, MOST_TICKS);
            return cellsIn(fault, ticks);
        }

        /** The lane is brought anew for every tick that is asked, as each knows other sights. */
        private int cellsAsKnown(int tick) {
            reached[KNOWN_LANE] = -1;
            bring(KNOWN_LANE, 0, tick, tick);
            return cellsIn(KNOWN_LANE, tick);
        }

        private int cellsIn(int lane, int tick) {
            int start = startOf(lane, tick);
            int count = 0;
            for (int cell = 0; cell < thing.cells; cell++) {
                if (masks[start + cell] != 0) {
                    count++;
                }
            }
            return count;
        }

        private boolean mayBe(int cell) {
            bring(0, 0, ticks, MOST_TICKS);
            return masks[startOf(0, ticks) + cell] != 0;
        }

        private int bound(int state, boolean most) {
            bring(0, 0, ticks, MOST_TICKS);
            int found = NO_VALUE;
            for (int cell = 0; cell < thing.cells; cell++) {
                if (masks[startOf(0, ticks) + cell] != 0) {
                    thing.spread(STATE, cell, 0, values);
                    int value = values[state];
                    boolean better = most ? value > found : value < found;
                    if (found == NO_VALUE || better) {
                        found = value;
                    }
                }
            }
            return found;
        }

        private int onlyFault() {
            int found = -3;
            for (int fault = 0; fault <= thing.many[PUSH] + thing.many[SIGHT] && fault < FAULTS; fault++) {
                if (cellsBy(fault) > 0) {
                    found = found == -3 ? fault : -2;
                }
            }
            return found;
        }

        private int fitting() {
            bring(0, 0, ticks, MOST_TICKS);
            int fitting = 0;
            for (int cell = 0; cell < thing.cells; cell++) {
                fitting |= masks[startOf(0, ticks) + cell];
            }
            return fitting;
        }

        /** The push of those open by which most can be told about the nums. */
        private int telling(int cell, int open) {
            int fitting = fitting();
            int chosen = NONE;
            int most = -1;
            for (int push = 0; push < thing.pushes; push++) {
                if ((open >> push & 1) != 0) {
                    int different = differentLeads(cell, push, fitting);
                    if (different > most) {
                        most = different;
                        chosen = push;
                    }
                }
            }
            return chosen;
        }

        /** With the worlds at their least a world has the number of its nums. */
        private int differentLeads(int cell, int push, int fitting) {
            int different = 0;
            for (int num = 0; num < thing.numParts; num++) {
                if ((fitting >> num & 1) != 0) {
                    int next = moves.leadOf(cell, push, num);
                    boolean before = false;
                    for (int other = 0; other < num && !before; other++) {
                        before = (fitting >> other & 1) != 0 && moves.leadOf(cell, push, other) == next;
                    }
                    different += before ? 0 : 1;
                }
            }
            return different;
        }

        private int startOf(int lane, int tick) {
            return (lane * (MOST_TICKS + 1) + tick) * thing.cells;
        }

        private void bring(int lane, int fault, int tick, int known) {
            until = known;
            masks = longEnough(masks, LANES * (MOST_TICKS + 1) * thing.cells);
            for (int each = reached[lane] + 1; each <= tick; each++) {
                int start = startOf(lane, each);
                Arrays.fill(masks, start, start + thing.cells, 0);
                if (each == 0) {
                    beginLane(start, fault);
                } else {
                    moveLane(start, fault, each);
                }
                reached[lane] = each;
            }
        }

        private void beginLane(int start, int fault) {
            Arrays.fill(values, 0);
            thing.spread(WORLD, 0, 0, values);
            for (int num = 0; num < thing.numParts; num++) {
                thing.spread(NUM, num, 0, values);
                for (int cell = 0; cell < thing.cells; cell++) {
                    if (wishes.isGood(cell) && agrees(0, cell, fault)) {
                        masks[start + cell] |= 1 << num;
                    }
                }
            }
        }

        private void moveLane(int start, int fault, int tick) {
            int push = pushes[tick];
            if (fault >= 1 && fault <= thing.many[PUSH]) {
                push = thing.failing(push, fault - 1, values);
            }
            thing.spread(PUSH, push, 0, values);
            int nums = Math.max(1, thing.numParts);
            for (int world = 0; world < thing.worlds; world++) {
                thing.spreadWorld(world, 0, values);
                int bit = 1 << (world % nums);
                for (int cell = 0; cell < thing.cells; cell++) {
                    if ((masks[start - thing.cells + cell] & bit) != 0) {
                        int next = moves.leadOf(cell, push, world);
                        if (next >= 0 && (masks[start + next] & bit) == 0 && agrees(tick, next, fault)) {
                            masks[start + next] |= bit;
                        }
                    }
                }
            }
        }

        /** Whether what was told of a tick could be seen in a cell; the other values stand in their row. */
        private boolean agrees(int tick, int cell, int fault) {
            boolean spread = false;
            for (int sight = 0; sight < thing.many[SIGHT]; sight++) {
                int at = tick * SIGHTS + sight;
                if (toldAt[at] >= 0 && toldAt[at] <= until) {
                    if (!spread) {
                        thing.spread(STATE, cell, 0, values);
                        spread = true;
                    }
                    boolean fails = fault == thing.many[PUSH] + 1 + sight;
                    int value = fails ? 0 : thing.seen(sight, values);
                    if (value != told[at]) {
                        return false;
                    }
                }
            }
            return true;
        }
    }

    /** A law in short numbers, and claims; both are held against where the thing leads. */
    private static final class Proofs {
        private final Model thing;
        private final Moves moves;
        private final Wishes wishes;
        private final Safety safety;
        private final int[] values = new int[SLOTS];
        private final int[] factors = new int[3];
        private int bias;
        private int shift;
        private int claimed;
        private final int[] claims = new int[MOST_CELLS];
        private final int[] visits = new int[MOST_CELLS];

        private Proofs(Model thing, Moves moves, Wishes wishes, Safety safety) {
            this.thing = thing;
            this.moves = moves;
            this.wishes = wishes;
            this.safety = safety;
        }

        private void renew() {
            setCode(0, 0, 0, 0, 0);
            Arrays.fill(claims, NONE);
            claimed = 0;
        }

        private void setCode(int first, int second, int third, int always, int down) {
            factors[0] = first;
            factors[1] = second;
            factors[2] = third;
            bias = always;
            shift = down;
        }

        private int codePush(int cell) {
            thing.spread(STATE, cell, 0, values);
            int value = bias;
            for (int i = 0; i < thing.many[STATE]; i++) {
                value += factors[i] * values[i];
            }
            if (shift > 0) {
                value = value + (1 << (shift - 1)) >> shift;
            }
            int slot = BASE[PUSH];
            return Math.max(thing.low[slot], Math.min(thing.high[slot], value)) - thing.low[slot];
        }

        private int straying() {
            int count = 0;
            for (int cell = 0; cell < thing.cells; cell++) {
                int open = safety.open[cell];
                if (open != 0 && (open >> codePush(cell) & 1) == 0) {
                    count++;
                }
            }
            return count;
        }

        private int round(int cell) {
            Arrays.fill(visits, NONE);
            int here = cell;
            for (int tick = 0; tick <= thing.cells; tick++) {
                if (visits[here] >= 0) {
                    return tick - visits[here];
                }
                visits[here] = tick;
                thing.spreadMove(here, codePush(here), 0, values);
                here = thing.lead(values);
                if (here < 0) {
                    return OUT;
                }
            }
            return OUT;
        }

        private void setClaim(int cell, int ticks) {
            claimed += (ticks < 0 ? 0 : 1) - (claims[cell] < 0 ? 0 : 1);
            claims[cell] = ticks;
        }

        private boolean isClaimed(int cell) {
            return claims[cell] >= 0;
        }

        private int firstBreak() {
            for (int cell = 0; cell < thing.cells; cell++) {
                if (isClaimed(cell) && !stands(cell)) {
                    return cell;
                }
            }
            return -2;
        }

        private boolean stands(int cell) {
            if (!wishes.isGood(cell)) {
                return false;
            }
            if (claims[cell] == 0) {
                return wishes.isGoal(cell);
            }
            for (int push = 0; push < thing.pushes; push++) {
                if (leadsToLess(cell, push)) {
                    return true;
                }
            }
            return false;
        }

        private boolean leadsToLess(int cell, int push) {
            for (int world = 0; world < thing.worlds; world++) {
                int next = moves.leadOf(cell, push, world);
                if (next < 0 || claims[next] < 0 || claims[next] >= claims[cell]) {
                    return false;
                }
            }
            return true;
        }
    }
}
