/**
 * Ideals of polynomials in five variables over true and false.
 *
 * A set of points and a set of monomials are both held as the 32 bits of an int. An ideal is known
 * by the set of its zeros, so every question is answered from that set, made anew from the
 * generators: nothing has to be kept in step when a generator comes or goes.
 */
public final class BooleanGroebner {
    private static final int IDEALS = 2;
    private static final int CAPACITY = 8;
    private static final int SLOTS = 16;
    private static final int VARIABLES = 5;
    private static final int MONOMIALS = 32;
    private static final int POINTS = 32;
    private static final long LOWER_HALF = 0xFFFFFFFFL;

    private final int[] generatorList = new int[SLOTS];
    private final int[] generatorCount = new int[IDEALS];
    private final int[] risingByVariables = new int[MONOMIALS];
    private int orderKind;

    // What solve leaves behind for the question that called it; no later question reads it.
    private final long[] rows = new long[POINTS];
    private final int[] basisList = new int[MONOMIALS];
    private int pivots;
    private int ledMonomials;
    private int basisCount;

    public BooleanGroebner() {
        orderKind = 0;
        fillRisingByVariables();
    }

    public int generate(int k, int polynomial) {
        if (!isIdeal(k)) {
            return -1;
        }
        int count = generatorCount[k];
        if (count >= CAPACITY) {
            return -2;
        }
        generatorList[k * CAPACITY + count] = polynomial;
        generatorCount[k] = count + 1;
        return count + 1;
    }

    public int retract(int k, int position) {
        if (!isIdeal(k)) {
            return -1;
        }
        int left = generatorCount[k] - 1;
        if (position < 0 || position > left) {
            return -2;
        }
        int first = k * CAPACITY;
        for (int i = position; i < left; i++) {
            generatorList[first + i] = generatorList[first + i + 1];
        }
        generatorCount[k] = left;
        return left;
    }

    public int clear(int k) {
        if (!isIdeal(k)) {
            return -1;
        }
        int before = generatorCount[k];
        generatorCount[k] = 0;
        return before;
    }

    public int order(int kind) {
        if (kind != 0 && kind != 1) {
            return -1;
        }
        int before = orderKind;
        orderKind = kind;
        return before;
    }

    public int generators(int k) {
        return isIdeal(k) ? generatorCount[k] : -1;
    }

    public int value(int polynomial, int point) {
        if (point < 0 || point >= POINTS) {
            return -1;
        }
        int values = exchange(polynomial);
        return hasBit(values, point) ? 1 : 0;
    }

    public int product(int p, int q) {
        int valuesOfP = exchange(p);
        int valuesOfQ = exchange(q);
        return exchange(valuesOfP & valuesOfQ);
    }

    public int leading(int polynomial) {
        for (int rank = MONOMIALS - 1; rank >= 0; rank--) {
            int monomial = monomialAt(rank);
            if (hasBit(polynomial, monomial)) {
                return monomial;
            }
        }
        return -1;
    }

    public int contains(int k, int polynomial) {
        if (!isIdeal(k)) {
            return -1;
        }
        int values = exchange(polynomial);
        return (values & zeroSet(k)) == 0 ? 1 : 0;
    }

    public int normal(int k, int polynomial) {
        if (!isIdeal(k)) {
            return 0;
        }
        solve(k);
        int valuesAtZeros = exchange(polynomial) & zeroSet(k);
        long unreduced = rowOf(0, valuesAtZeros);
        long reduced = reduce(unreduced);
        return polynomialOf(reduced);
    }

    public int basisSize(int k) {
        if (!isIdeal(k)) {
            return -1;
        }
        solve(k);
        return basisCount;
    }

    public int basis(int k, int i) {
        if (!isIdeal(k)) {
            return 0;
        }
        solve(k);
        return i >= 0 && i < basisCount ? basisList[i] : 0;
    }

    public int standard(int k) {
        if (!isIdeal(k)) {
            return -1;
        }
        solve(k);
        return countBits(~ledMonomials);
    }

    public int zeros(int k) {
        if (!isIdeal(k)) {
            return -1;
        }
        int zeroPoints = zeroSet(k);
        return countBits(zeroPoints);
    }

    public int nextZero(int k, int after) {
        if (!isIdeal(k)) {
            return -1;
        }
        int zeroPoints = zeroSet(k);
        for (int point = 0; point < POINTS; point++) {
            if (point > after && hasBit(zeroPoints, point)) {
                return point;
            }
        }
        return -2;
    }

    // An ideal holds all that vanishes on its zeros, so the ideal with fewer zeros is the larger.
    public int within(int k) {
        if (!isIdeal(k)) {
            return -1;
        }
        int own = zeroSet(k);
        int others = zeroSet(1 - k);
        return (others & ~own) == 0 ? 1 : 0;
    }

    public int commonZeros() {
        int common = zeroSet(0) & zeroSet(1);
        return countBits(common);
    }

    public int fixed(int k, int variable, int b) {
        if (!isIdeal(k)) {
            return -1;
        }
        if (variable < 0 || variable >= VARIABLES) {
            return -2;
        }
        if (b != 0 && b != 1) {
            return -3;
        }
        int zeroPoints = zeroSet(k);
        for (int point = 0; point < POINTS; point++) {
            if (hasBit(zeroPoints, point) && ((point >>> variable) & 1) != b) {
                return 0;
            }
        }
        return 1;
    }

    private static boolean isIdeal(int k) {
        return k == 0 || k == 1;
    }

    private static boolean hasBit(int set, int member) {
        return ((set >>> member) & 1) == 1;
    }

    private static int countBits(int set) {
        int count = 0;
        for (int member = 0; member < 32; member++) {
            count += (set >>> member) & 1;
        }
        return count;
    }

    // From a polynomial to the set of points where it is 1, and back: each step adds, for one
    // variable, the half without it to the half with it, and a step done twice undoes itself.
    private static int exchange(int set) {
        int result = set;
        result ^= (result & 0x55555555) << 1;
        result ^= (result & 0x33333333) << 2;
        result ^= (result & 0x0F0F0F0F) << 4;
        result ^= (result & 0x00FF00FF) << 8;
        result ^= (result & 0x0000FFFF) << 16;
        return result;
    }

    private void fillRisingByVariables() {
        int rank = 0;
        for (int variables = 0; variables <= VARIABLES; variables++) {
            for (int monomial = 0; monomial < MONOMIALS; monomial++) {
                if (countBits(monomial) == variables && rank < MONOMIALS) {
                    risingByVariables[rank] = monomial;
                    rank++;
                }
            }
        }
    }

    private int monomialAt(int rank) {
        return orderKind == 0 ? risingByVariables[rank] : rank;
    }

    private int zeroSet(int k) {
        int count = generatorCount[k];
        int zeroPoints = -1;
        for (int i = 0; i < count; i++) {
            zeroPoints &= ~exchange(generatorList[k * CAPACITY + i]);
        }
        return zeroPoints;
    }

    // Takes the monomials in rising order: one is led just when, at the zeros, it agrees with a sum
    // of lower ones, and then its row has come down to itself plus its normal form.
    private void solve(int k) {
        int zeroPoints = zeroSet(k);
        pivots = 0;
        ledMonomials = 0;
        basisCount = 0;
        for (int rank = 0; rank < MONOMIALS; rank++) {
            int monomial = monomialAt(rank);
            int polynomial = 1 << monomial;
            int valuesAtZeros = exchange(polynomial) & zeroPoints;
            long unreduced = rowOf(polynomial, valuesAtZeros);
            long row = reduce(unreduced);
            if (valuesOf(row) == 0) {
                addLed(monomial, row);
            } else {
                addPivot(row);
            }
        }
    }

    private void addLed(int monomial, long row) {
        // What divides a monomial is lower in both orders, so all led divisors are known by now.
        if (!hasLedDivisor(monomial) && basisCount < MONOMIALS) {
            basisList[basisCount] = polynomialOf(row);
            basisCount++;
        }
        ledMonomials |= 1 << monomial;
    }

    private boolean hasLedDivisor(int monomial) {
        for (int divisor = 0; divisor < monomial; divisor++) {
            if ((divisor & monomial) == divisor && hasBit(ledMonomials, divisor)) {
                return true;
            }
        }
        return false;
    }

    // The least point is the pivot, so that one rising pass over the points reduces fully.
    private void addPivot(long row) {
        int values = valuesOf(row);
        for (int point = 0; point < POINTS; point++) {
            if (hasBit(values, point)) {
                rows[point] = row;
                pivots |= 1 << point;
                return;
            }
        }
    }

    private long reduce(long row) {
        long result = row;
        for (int point = 0; point < POINTS; point++) {
            if (hasBit(pivots, point) && ((result >>> point) & 1L) == 1L) {
                result ^= rows[point];
            }
        }
        return result;
    }

    // A row is a polynomial in the upper half and its values at the zeros in the lower half of a
    // long: one exclusive or then adds both.
    private static long rowOf(int polynomial, int valuesAtZeros) {
        return ((long) polynomial << 32) | (valuesAtZeros & LOWER_HALF);
    }

    private static int polynomialOf(long row) {
        return (int) (row >>> 32);
    }

    private static int valuesOf(long row) {
        return (int) row;
    }
}
