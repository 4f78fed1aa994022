import java.util.ArrayList;
import java.util.List;

/** What the tests by hand have in common: books to ask, and arguments out of range. */
abstract class Books {
    static final Checks CHECKS = new Checks();
    static final int MIN = Integer.MIN_VALUE;
    static final int MAX = Integer.MAX_VALUE;

    /** Among them numbers whose last 8 or 16 binary digits alone would pass. */
    static final int[] NOT_A_SYSTEM = {
        -1, 2, 3, 10, -2, 256, -256, 65537, MIN, MIN + 1, MAX
    };

    /** Every pair of a number of unknowns and a number of bits that is not clamped. */
    static final List<Shape> SHAPES = shapes();

    record Shape(int n, int bits) {
        int modulus() {
            return 1 << bits;
        }

        int assignments() {
            return 1 << (bits * n);
        }

        /** The number of the assignment with the value at unknown v and 0 elsewhere. */
        int numberOf(int v, int value) {
            return value << (bits * v);
        }

        CongruenceBook book() {
            return new CongruenceBook(n, bits);
        }

        @Override
        public String toString() {
            return "n = " + n + ", bits = " + bits + ": ";
        }
    }

    private static List<Shape> shapes() {
        List<Shape> shapes = new ArrayList<>();
        int[] mostBits = {4, 4, 3, 2};
        for (int n = 1; n <= 4; n++) {
            for (int bits = 1; bits <= mostBits[n - 1]; bits++) {
                shapes.add(new Shape(n, bits));
            }
        }
        return shapes;
    }

    static void due(String call, long got, long want) {
        CHECKS.due(call, got, want);
    }

    /** Puts coefficients[0]*x(0) + coefficients[1]*x(1) + .. = rhs at the end of system s. */
    static int put(CongruenceBook book, int s, int rhs, int... coefficients) {
        line(book, coefficients);
        return book.add(s, rhs);
    }

    static void line(CongruenceBook book, int... coefficients) {
        for (int v = 0; v < book.unknowns(); v++) {
            book.draft(v, v < coefficients.length ? coefficients[v] : 0);
        }
    }

    /** The draft line becomes x(v) alone. */
    static void lineOf(CongruenceBook book, int v) {
        line(book);
        book.draft(v, 1);
    }

    /** Puts x(v) = value for every unknown, so that there is just one solution. */
    static void putAll(CongruenceBook book, int s, int value) {
        for (int v = 0; v < book.unknowns(); v++) {
            lineOf(book, v);
            book.add(s, value);
        }
    }

    /** Its system 0 holds 0 = 1. */
    static CongruenceBook contradictory(int vars, int bits) {
        CongruenceBook book = new CongruenceBook(vars, bits);
        book.add(0, 1);
        return book;
    }
}
