/**
 * Two systems of linear congruences over a few unknowns, all modulo the same
 * power of two, with questions about their solutions.
 *
 * There are at most 512 assignments, so every question simply walks through
 * all of them; nothing about the solutions is kept between calls that could
 * fall out of step with the systems.
 */
public final class CongruenceBook {

    private static final int MOST_UNKNOWNS = 4;
    private static final int MOST_CONGRUENCES = 10;
    private static final int SYSTEMS = 2;

    /** Room for both systems when full: SYSTEMS * MOST_CONGRUENCES rows of MOST_UNKNOWNS cells. */
    private static final int ROWS = 20;
    private static final int CELLS = 80;

    private static final int NO_SUCH_SYSTEM = -1;
    private static final int NO_SUCH_DRAFT_UNKNOWN = -1;
    private static final int SYSTEM_FULL = -2;
    private static final int NO_SUCH_POSITION = -2;
    private static final int NO_SUCH_UNKNOWN = -2;
    private static final int NO_VALUE = -2;
    private static final int NOTHING_TO_SETTLE = -3;

    /** Stands for "leave no congruence out": it is never a position. */
    private static final int NONE = -1;

    private final int unknownCount;
    private final int bitCount;
    private final int mask;
    private final int assignments;

    private final int[] draftLine = new int[MOST_UNKNOWNS];

    /** The congruence at position i of system s is row s * MOST_CONGRUENCES + i. */
    private final int[] coefficients = new int[CELLS];
    private final int[] rightSides = new int[ROWS];
    private final int[] sizes = new int[SYSTEMS];

    public CongruenceBook(int vars, int bits) {
        unknownCount = clamped(vars, MOST_UNKNOWNS);
        int mostBits = mostBitsFor(unknownCount);
        bitCount = clamped(bits, mostBits);
        mask = (1 << bitCount) - 1;
        assignments = 1 << (bitCount * unknownCount);
    }

    public int unknowns() {
        return unknownCount;
    }

    public int modulus() {
        return mask + 1;
    }

    public int draft(int v, int c) {
        if (!isUnknown(v)) {
            return NO_SUCH_DRAFT_UNKNOWN;
        }
        draftLine[v] = reduced(c);
        return draftLine[v];
    }

    public int drafted(int v) {
        if (!isUnknown(v)) {
            return NO_SUCH_DRAFT_UNKNOWN;
        }
        return draftLine[v];
    }

    public int add(int s, int rhs) {
        if (!isSystem(s)) {
            return NO_SUCH_SYSTEM;
        }
        if (sizes[s] >= MOST_CONGRUENCES) {
            return SYSTEM_FULL;
        }
        int row = rowOf(s, sizes[s]);
        for (int v = 0; v < MOST_UNKNOWNS; v++) {
            coefficients[row * MOST_UNKNOWNS + v] = draftLine[v];
        }
        rightSides[row] = reduced(rhs);
        sizes[s]++;
        return sizes[s];
    }

    public int drop(int s, int i) {
        if (!isSystem(s)) {
            return NO_SUCH_SYSTEM;
        }
        if (!isPosition(s, i)) {
            return NO_SUCH_POSITION;
        }
        int last = rowOf(s, sizes[s] - 1);
        for (int row = rowOf(s, i); row < last; row++) {
            copyRow(row + 1, row);
        }
        sizes[s]--;
        return sizes[s];
    }

    public int copy(int s) {
        if (!isSystem(s)) {
            return NO_SUCH_SYSTEM;
        }
        int from = rowOf(s, 0);
        int to = rowOf(1 - s, 0);
        for (int i = 0; i < sizes[s]; i++) {
            copyRow(from + i, to + i);
        }
        sizes[1 - s] = sizes[s];
        return sizes[s];
    }

    public int size(int s) {
        if (!isSystem(s)) {
            return NO_SUCH_SYSTEM;
        }
        return sizes[s];
    }

    public int solutions(int s) {
        return below(s, assignments);
    }

    public int nth(int s, int i) {
        if (!isSystem(s)) {
            return NO_SUCH_SYSTEM;
        }
        int passed = 0;
        for (int number = 0; number < assignments; number++) {
            if (solves(s, number, NONE)) {
                if (passed == i) {
                    return number;
                }
                passed++;
            }
        }
        return NO_SUCH_POSITION;
    }

    public int below(int s, int bound) {
        if (!isSystem(s)) {
            return NO_SUCH_SYSTEM;
        }
        int count = 0;
        for (int number = 0; number < assignments && number < bound; number++) {
            if (solves(s, number, NONE)) {
                count++;
            }
        }
        return count;
    }

    public int entails(int s, int c) {
        if (!isSystem(s)) {
            return NO_SUCH_SYSTEM;
        }
        int wanted = reduced(c);
        for (int number = 0; number < assignments; number++) {
            if (solves(s, number, NONE) && draftValue(number) != wanted) {
                return 0;
            }
        }
        return 1;
    }

    public int countAt(int s, int c) {
        if (!isSystem(s)) {
            return NO_SUCH_SYSTEM;
        }
        int wanted = reduced(c);
        int count = 0;
        for (int number = 0; number < assignments; number++) {
            if (solves(s, number, NONE) && draftValue(number) == wanted) {
                count++;
            }
        }
        return count;
    }

    public int values(int s) {
        if (!isSystem(s)) {
            return NO_SUCH_SYSTEM;
        }
        int count = 0;
        for (int value = 0; value <= mask; value++) {
            if (countAt(s, value) > 0) {
                count++;
            }
        }
        return count;
    }

    public int leastValue(int s) {
        if (!isSystem(s)) {
            return NO_SUCH_SYSTEM;
        }
        for (int value = 0; value <= mask; value++) {
            if (countAt(s, value) > 0) {
                return value;
            }
        }
        return NO_VALUE;
    }

    public int within(int s) {
        if (!isSystem(s)) {
            return NO_SUCH_SYSTEM;
        }
        for (int number = 0; number < assignments; number++) {
            if (solves(s, number, NONE) && !solves(1 - s, number, NONE)) {
                return 0;
            }
        }
        return 1;
    }

    public int common() {
        int count = 0;
        for (int number = 0; number < assignments; number++) {
            if (solves(0, number, NONE) && solves(1, number, NONE)) {
                count++;
            }
        }
        return count;
    }

    public int withoutUnknown(int s, int v) {
        if (!isSystem(s)) {
            return NO_SUCH_SYSTEM;
        }
        if (!isUnknown(v)) {
            return NO_SUCH_UNKNOWN;
        }
        // The assignments with x(v) = 0 stand for the ways to fill in the rest.
        int count = 0;
        for (int number = 0; number < assignments; number++) {
            if (digit(number, v) == 0 && canBeCompleted(s, number, v)) {
                count++;
            }
        }
        return count;
    }

    public int settledBits(int s, int v) {
        if (!isSystem(s)) {
            return NO_SUCH_SYSTEM;
        }
        if (!isUnknown(v)) {
            return NO_SUCH_UNKNOWN;
        }
        int first = nth(s, 0);
        if (first < 0) {
            return NOTHING_TO_SETTLE;
        }
        int differing = differingBits(s, v, first);
        for (int j = 0; j < bitCount; j++) {
            if (((differing >> j) & 1) != 0) {
                return j;
            }
        }
        return bitCount;
    }

    public int redundant(int s, int i) {
        if (!isSystem(s)) {
            return NO_SUCH_SYSTEM;
        }
        if (!isPosition(s, i)) {
            return NO_SUCH_POSITION;
        }
        for (int number = 0; number < assignments; number++) {
            if (solves(s, number, i) && !solves(s, number, NONE)) {
                return 0;
            }
        }
        return 1;
    }

    private static int clamped(int wish, int most) {
        if (wish < 1) {
            return 1;
        }
        return wish > most ? most : wish;
    }

    private static int mostBitsFor(int unknownCount) {
        switch (unknownCount) {
            case 4:
                return 2;
            case 3:
                return 3;
            default:
                return 4;
        }
    }

    private static boolean isSystem(int s) {
        return s == 0 || s == 1;
    }

    private boolean isUnknown(int v) {
        return v >= 0 && v < unknownCount;
    }

    private boolean isPosition(int s, int i) {
        return i >= 0 && i < sizes[s];
    }

    private static int rowOf(int s, int i) {
        return s * MOST_CONGRUENCES + i;
    }

    private void copyRow(int from, int to) {
        for (int v = 0; v < MOST_UNKNOWNS; v++) {
            coefficients[to * MOST_UNKNOWNS + v] = coefficients[from * MOST_UNKNOWNS + v];
        }
        rightSides[to] = rightSides[from];
    }

    /** M is a power of two, so masking is the remainder that is never negative. */
    private int reduced(int c) {
        return c & mask;
    }

    private int digit(int number, int v) {
        return (number >> (bitCount * v)) & mask;
    }

    private int draftValue(int number) {
        return lineValue(draftLine, 0, number);
    }

    private int lineValue(int[] line, int start, int number) {
        int sum = 0;
        for (int v = 0; v < unknownCount; v++) {
            sum += line[start + v] * digit(number, v);
        }
        return reduced(sum);
    }

    /** Does the assignment meet every congruence of the system but the one left out? */
    private boolean solves(int s, int number, int leftOut) {
        for (int i = 0; i < sizes[s]; i++) {
            int row = rowOf(s, i);
            int value = lineValue(coefficients, row * MOST_UNKNOWNS, number);
            if (i != leftOut && value != rightSides[row]) {
                return false;
            }
        }
        return true;
    }

    /** The number has 0 for x(v); does some value of x(v) in its place make it a solution? */
    private boolean canBeCompleted(int s, int number, int v) {
        for (int value = 0; value <= mask; value++) {
            if (solves(s, number + (value << (bitCount * v)), NONE)) {
                return true;
            }
        }
        return false;
    }

    /** The binary digits of x(v) in which some solution is not like the first one. */
    private int differingBits(int s, int v, int first) {
        int firstValue = digit(first, v);
        int differing = 0;
        for (int number = first + 1; number < assignments; number++) {
            if (solves(s, number, NONE)) {
                differing |= digit(number, v) ^ firstValue;
            }
        }
        return differing;
    }
}
