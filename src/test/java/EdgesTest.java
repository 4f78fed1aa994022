/**
 * One test for each sentence of the document that names a boundary case and is
 * no refusal: too small, too large, empty, full, a wrap-around, none or just one.
 */
public final class EdgesTest extends Books {
    private static final int[] MOST_BITS = {4, 4, 3, 2};

    public static void main(String[] args) {
        terms();
        newObject();
        changes();
        questions();
        CHECKS.end();
    }

    private static void terms() {
        CHECKS.sentence("What it is: An object is used for at most 512 calls after it has been made",
            EdgesTest::the512thCall);
        CHECKS.sentence("Terms: take the values 0 .. M-1", EdgesTest::valuesOfAnUnknown);
        CHECKS.sentence("Terms: the remainder is never negative: -1 becomes M-1", EdgesTest::minusOne);
        CHECKS.sentence("Terms: coefficient(v) * x(v) over all v, modulo M, equals c", EdgesTest::sumsWrapAround);
        CHECKS.sentence("Terms: A system is a list of at most 10 congruences", EdgesTest::tenCount);
        CHECKS.sentence("Terms: (every assignment, if the list is empty)", EdgesTest::emptySystem);
        CHECKS.sentence("Terms: There are two systems, 0 and 1, both empty at first.", EdgesTest::emptyAtFirst);
        CHECKS.sentence("Terms: so x(0) is the last digit", EdgesTest::digits);
        CHECKS.sentence("Terms: numbers are 0 .. M^n - 1", EdgesTest::leastAndGreatestNumber);
        CHECKS.sentence("Terms: a coefficient for every unknown, all 0 at first", EdgesTest::draftLineAtFirst);
        CHECKS.sentence("Terms: its coefficient(v) * x(v), modulo M", EdgesTest::draftValuesWrapAround);
    }

    private static void newObject() {
        CHECKS.sentence("Promise 1: vars is the number n of unknowns: below 1 becomes 1", EdgesTest::tooFewUnknowns);
        CHECKS.sentence("Promise 1: above 4 becomes 4", EdgesTest::tooManyUnknowns);
        CHECKS.sentence("Promise 1: bits: below 1 becomes 1", EdgesTest::tooFewBits);
        CHECKS.sentence("Promise 1: then, above the most becomes the most, which is 4 for n = 1 and n = 2, "
            + "3 for n = 3, and 2 for n = 4.", EdgesTest::tooManyBits);
        CHECKS.sentence("Promise 1: So there are at most 512 assignments.", EdgesTest::atMost512);
        CHECKS.sentence("Promise 2: n, as clamped.", EdgesTest::unknownsAsClamped);
        CHECKS.sentence("Promise 3: M.", EdgesTest::modulusAsClamped);
    }

    private static void changes() {
        CHECKS.sentence("Promise 4: becomes c modulo M (c may be any int)", EdgesTest::draftOfAnyInt);
        CHECKS.sentence("Promise 6: the right side rhs modulo M (rhs may be any int)", EdgesTest::addOfAnyInt);
        CHECKS.sentence("Promise 6: The draft line stays as it is.", EdgesTest::addKeepsTheDraftLine);
        CHECKS.sentence("Promise 7: position i (0 for the first)", EdgesTest::dropOfFirstAndLast);
        CHECKS.sentence("Promise 7: later ones move down by one", EdgesTest::laterOnesMoveDown);
        CHECKS.sentence("Promise 8: The other system (1 - s) becomes a copy of system s.", EdgesTest::copyOfEverySize);
    }

    private static void questions() {
        CHECKS.sentence("Promise 11: in rising order of their numbers (0 for the least)", EdgesTest::nthOfFirstAndLast);
        CHECKS.sentence("Promise 12: have a number less than bound (any int)", EdgesTest::belowAnyInt);
        CHECKS.sentence("Promise 13: the value c modulo M (c may be any int)", EdgesTest::entailsOfAnyInt);
        CHECKS.sentence("Promise 13: also if there is no solution", EdgesTest::entailsOfNone);
        CHECKS.sentence("Promise 14: the value c modulo M (c may be any int)", EdgesTest::countAtAnyInt);
        CHECKS.sentence("Promise 15: (0 if there are none)", EdgesTest::valuesOfNone);
        CHECKS.sentence("Promise 17: (also if s has none)", EdgesTest::withinOfNone);
        CHECKS.sentence("Promise 18: How many assignments are solutions of both systems.", EdgesTest::commonOfAllAndNone);
        CHECKS.sentence("Promise 19: (for n = 1: 1 if there is a solution, otherwise 0)", EdgesTest::withoutTheOnlyUnknown);
        CHECKS.sentence("Promise 20: the greatest j in 0 .. bits", EdgesTest::settledFromNoneToAll);
        CHECKS.sentence("Promise 20: (bits if there is just one solution)", EdgesTest::settledInJustOne);
        CHECKS.sentence("Promise 21: can be left out without changing the solutions of system s",
            EdgesTest::redundantBesideNoneAndAll);
    }

    /** Ints near 0, near the modulus on both sides of 0, and near the ends of the range. */
    private static int[] intsAround(int modulus) {
        return new int[] {
            0, 1, modulus - 1, modulus, modulus + 1, 2 * modulus - 1, 2 * modulus, 1000 * modulus + 1,
            -1, -2, -modulus + 1, -modulus, -modulus - 1, -2 * modulus, -1000 * modulus - 1,
            MAX, MAX - 1, MAX - modulus, MIN, MIN + 1, MIN + modulus - 1
        };
    }

    private static void the512thCall() {
        CongruenceBook book = new CongruenceBook(3, 3);
        book.draft(0, 1);
        for (int call = 2; call <= 510; call += 2) {
            due("add(1, 3) as call " + call, book.add(1, 3), 1);
            due("drop(1, 0) as call " + (call + 1), book.drop(1, 0), 0);
        }
        due("add(1, 3) as call 512", book.add(1, 3), 1);
        CongruenceBook asked = new CongruenceBook(3, 3);
        for (int call = 1; call <= 512; call++) {
            due("solutions(0) as call " + call, asked.solutions(0), 512);
        }
    }

    private static void valuesOfAnUnknown() {
        for (Shape shape : SHAPES) {
            int m = shape.modulus();
            for (int v = 0; v < shape.n(); v++) {
                CongruenceBook book = shape.book();
                lineOf(book, v);
                due(shape + "the values of x(" + v + ")", book.values(0), m);
                due(shape + "the least of x(" + v + ")", book.leastValue(0), 0);
                due(shape + "x(" + v + ") = 0", book.countAt(0, 0), shape.assignments() / m);
                due(shape + "x(" + v + ") = M-1", book.countAt(0, m - 1), shape.assignments() / m);
            }
        }
    }

    private static void minusOne() {
        for (Shape shape : SHAPES) {
            int m = shape.modulus();
            CongruenceBook book = shape.book();
            for (int v = 0; v < shape.n(); v++) {
                due(shape + "draft(" + v + ", -1)", book.draft(v, -1), m - 1);
                due(shape + "drafted(" + v + ")", book.drafted(v), m - 1);
            }
            lineOf(book, 0);
            book.add(0, -1);
            due(shape + "x(0) = -1", book.nth(0, 0), m - 1);
            due(shape + "entails(0, -1)", book.entails(0, -1), 1);
            due(shape + "entails(0, M-1)", book.entails(0, m - 1), 1);
            due(shape + "countAt(0, -1)", book.countAt(0, -1), shape.assignments() / m);
            due(shape + "countAt(0, M-1)", book.countAt(0, m - 1), shape.assignments() / m);
        }
    }

    private static void sumsWrapAround() {
        for (Shape shape : SHAPES) {
            int m = shape.modulus();
            CongruenceBook product = shape.book();
            put(product, 0, 1, m - 1);
            due(shape + "(M-1) x(0) = 1 for x(0) = M-1", product.nth(0, 0), m - 1);
            due(shape + "(M-1) x(0) = 1", product.solutions(0), shape.assignments() / m);
            CongruenceBook sum = shape.book();
            line(sum, 1, 1, 1, 1);
            sum.add(1, 0);
            due(shape + "x(0) + x(1) + .. = 0", sum.solutions(1), shape.assignments() / m);
            putAll(sum, 1, m - 1);
            due(shape + "all M-1 add up to -n", sum.solutions(1), shape.n() % m == 0 ? 1 : 0);
            CongruenceBook even = shape.book();
            put(even, 0, 0, m / 2);
            due(shape + "M/2 x(0) = 0 for even x(0)", even.solutions(0), shape.assignments() / 2);
            due(shape + "even x(0) below M", even.below(0, m), m / 2);
        }
    }

    /** Each of the ten forbids something, and an eleventh would forbid all. */
    private static void tenCount() {
        for (int s = 0; s < 2; s++) {
            for (int odd = 0; odd < 10; odd++) {
                CongruenceBook book = new CongruenceBook(2, 4);
                line(book, 1, 1);
                for (int i = 0; i < 10; i++) {
                    book.add(s, i == odd ? 1 : 2);
                }
                due("the one at " + odd + " counts in system " + s, book.solutions(s), 0);
                due("the other system", book.solutions(1 - s), 256);
            }
            CongruenceBook book = new CongruenceBook(2, 4);
            line(book, 1, 1);
            for (int i = 0; i < 10; i++) {
                book.add(s, 2);
            }
            due("ten in system " + s, book.size(s), 10);
            book.add(s, 1);
            due("no eleventh in system " + s, book.size(s), 10);
            due("an eleventh does not count", book.solutions(s), 16);
            due("an eleventh does not spill over", book.size(1 - s), 0);
        }
    }

    private static void emptySystem() {
        for (Shape shape : SHAPES) {
            for (int s = 0; s < 2; s++) {
                everyAssignment(shape + "new, ", shape, shape.book(), s);
                CongruenceBook dropped = shape.book();
                dropped.add(s, 1);
                dropped.drop(s, 0);
                everyAssignment(shape + "dropped, ", shape, dropped, s);
                CongruenceBook copied = shape.book();
                copied.add(s, 1);
                copied.copy(1 - s);
                everyAssignment(shape + "copied, ", shape, copied, s);
            }
        }
    }

    private static void everyAssignment(String at, Shape shape, CongruenceBook book, int s) {
        int all = shape.assignments();
        due(at + "size(" + s + ")", book.size(s), 0);
        due(at + "solutions(" + s + ")", book.solutions(s), all);
        for (int number = 0; number < all; number = number * 2 + 1) {
            due(at + "nth(" + s + ", " + number + ")", book.nth(s, number), number);
            due(at + "below(" + s + ", " + number + ")", book.below(s, number), number);
        }
        book.draft(0, 1);
        due(at + "values(" + s + ")", book.values(s), shape.modulus());
        due(at + "leastValue(" + s + ")", book.leastValue(s), 0);
        due(at + "entails(" + s + ", 0)", book.entails(s, 0), 0);
        due(at + "countAt(" + s + ", 1)", book.countAt(s, 1), all / shape.modulus());
        due(at + "withoutUnknown(" + s + ", 0)", book.withoutUnknown(s, 0), all / shape.modulus());
        due(at + "settledBits(" + s + ", 0)", book.settledBits(s, 0), 0);
    }

    private static void emptyAtFirst() {
        for (Shape shape : SHAPES) {
            CongruenceBook book = shape.book();
            due(shape + "size(0)", book.size(0), 0);
            due(shape + "size(1)", book.size(1), 0);
            due(shape + "the first of system 0", book.add(0, 1), 1);
            due(shape + "system 1 beside it", book.size(1), 0);
            due(shape + "the first of system 1", book.add(1, 0), 1);
            due(shape + "solutions(0)", book.solutions(0), 0);
            due(shape + "solutions(1)", book.solutions(1), shape.assignments());
        }
    }

    private static void digits() {
        for (Shape shape : SHAPES) {
            for (int v = 0; v < shape.n(); v++) {
                for (int value = 0; value < shape.modulus(); value++) {
                    CongruenceBook book = shape.book();
                    lineOf(book, v);
                    book.add(0, value);
                    due(shape + "the least with x(" + v + ") = " + value, book.nth(0, 0), shape.numberOf(v, value));
                }
            }
        }
    }

    private static void leastAndGreatestNumber() {
        for (Shape shape : SHAPES) {
            int all = shape.assignments();
            CongruenceBook book = shape.book();
            putAll(book, 0, 0);
            due(shape + "all 0", book.nth(0, 0), 0);
            putAll(book, 1, shape.modulus() - 1);
            due(shape + "all M-1", book.nth(1, 0), all - 1);
            due(shape + "all M-1 below it", book.below(1, all - 1), 0);
            due(shape + "all M-1 below M^n", book.below(1, all), 1);
        }
    }

    private static void draftLineAtFirst() {
        for (Shape shape : SHAPES) {
            CongruenceBook book = shape.book();
            for (int v = 0; v < shape.n(); v++) {
                due(shape + "drafted(" + v + ")", book.drafted(v), 0);
            }
            due(shape + "values(0)", book.values(0), 1);
            due(shape + "leastValue(0)", book.leastValue(0), 0);
            due(shape + "entails(0, 0)", book.entails(0, 0), 1);
            book.add(0, 0);
            due(shape + "0 = 0", book.solutions(0), shape.assignments());
            book.add(1, 1);
            due(shape + "0 = 1", book.solutions(1), 0);
        }
    }

    private static void draftValuesWrapAround() {
        for (Shape shape : SHAPES) {
            int m = shape.modulus();
            int value = shape.n() % m;
            CongruenceBook book = shape.book();
            putAll(book, 1, m - 1);
            line(book, m - 1, m - 1, m - 1, m - 1);
            due(shape + "n * (M-1) * (M-1) is n", book.leastValue(1), value);
            due(shape + "entails", book.entails(1, value), 1);
            due(shape + "countAt", book.countAt(1, value), 1);
            due(shape + "values over one", book.values(1), 1);
            due(shape + "values over all", book.values(0), m);
            line(book, m / 2);
            due(shape + "M/2 x(0) is 0 or M/2", book.values(0), 2);
            due(shape + "M/2 x(0) is 0 for half", book.countAt(0, 0), shape.assignments() / 2);
        }
    }

    private static void made(int vars, int bits, int n, int modulus) {
        String made = "new CongruenceBook(" + vars + ", " + bits + ")";
        CongruenceBook book = new CongruenceBook(vars, bits);
        int all = 1;
        for (int v = 0; v < n; v++) {
            all *= modulus;
        }
        due(made + ".unknowns()", book.unknowns(), n);
        due(made + ".modulus()", book.modulus(), modulus);
        due(made + ".solutions(0)", book.solutions(0), all);
        due(made + ".draft(n-1, -1)", book.draft(n - 1, -1), modulus - 1);
        due(made + ".draft(n, -1)", book.draft(n, -1), -1);
    }

    private static void tooFewUnknowns() {
        for (int vars : new int[] {0, -1, -4, -255, MIN, MIN + 1}) {
            made(vars, 1, 1, 2);
            made(vars, 4, 1, 16);
        }
        made(1, 2, 1, 4);
    }

    private static void tooManyUnknowns() {
        for (int vars : new int[] {5, 6, 8, 257, 65537, MAX}) {
            made(vars, 1, 4, 2);
            made(vars, 2, 4, 4);
            made(vars, 4, 4, 4);
        }
        made(4, 1, 4, 2);
        made(3, 1, 3, 2);
    }

    private static void tooFewBits() {
        for (int n = 1; n <= 4; n++) {
            for (int bits : new int[] {0, -1, -3, -31, -32, MIN, MIN + 1}) {
                made(n, bits, n, 2);
            }
            made(n, 1, n, 2);
            made(n, 2, n, 4);
        }
        made(0, 0, 1, 2);
        made(5, 0, 4, 2);
    }

    private static void tooManyBits() {
        for (int n = 1; n <= 4; n++) {
            int most = MOST_BITS[n - 1];
            for (int bits : new int[] {most + 1, most + 2, 5, 31, 32, 33, 64, 257, MAX - 1, MAX}) {
                made(n, bits, n, 1 << most);
            }
            made(n, most, n, 1 << most);
            made(n, most - 1, n, 1 << (most - 1));
        }
        made(0, 5, 1, 16);
        made(5, 3, 4, 4);
        made(MAX, MAX, 4, 4);
    }

    private static void atMost512() {
        int most = 0;
        for (int vars = -1; vars <= 6; vars++) {
            for (int bits = -1; bits <= 6; bits++) {
                CongruenceBook book = new CongruenceBook(vars, bits);
                String made = "new CongruenceBook(" + vars + ", " + bits + ")";
                due(made + ".nth(0, 512)", book.nth(0, 512), -2);
                most = Math.max(most, book.solutions(0));
            }
        }
        due("the most assignments", most, 512);
    }

    private static void unknownsAsClamped() {
        int[][] rows = {{MIN, 1}, {-1, 1}, {0, 1}, {1, 1}, {2, 2}, {3, 3}, {4, 4}, {5, 4}, {MAX, 4}};
        for (int[] row : rows) {
            due("of " + row[0], new CongruenceBook(row[0], 1).unknowns(), row[1]);
            due("of " + row[0] + " with many bits", new CongruenceBook(row[0], 9).unknowns(), row[1]);
        }
    }

    private static void modulusAsClamped() {
        for (int n = 1; n <= 4; n++) {
            for (int bits = -1; bits <= 6; bits++) {
                int clamped = Math.min(Math.max(bits, 1), MOST_BITS[n - 1]);
                due("of " + n + ", " + bits, new CongruenceBook(n, bits).modulus(), 1 << clamped);
            }
        }
    }

    private static void draftOfAnyInt() {
        for (Shape shape : SHAPES) {
            int m = shape.modulus();
            int last = shape.n() - 1;
            for (int c : intsAround(m)) {
                CongruenceBook book = shape.book();
                int reduced = Math.floorMod(c, m);
                due(shape + "draft(n-1, " + c + ")", book.draft(last, c), reduced);
                due(shape + "drafted(n-1) after " + c, book.drafted(last), reduced);
                putAll(book, 0, 1);
                line(book);
                book.draft(last, c);
                due(shape + "its value at 1 after " + c, book.leastValue(0), reduced);
            }
        }
    }

    private static void addOfAnyInt() {
        for (Shape shape : SHAPES) {
            int m = shape.modulus();
            for (int rhs : intsAround(m)) {
                CongruenceBook book = shape.book();
                book.draft(0, 1);
                due(shape + "add(1, " + rhs + ")", book.add(1, rhs), 1);
                due(shape + "x(0) = " + rhs, book.nth(1, 0), Math.floorMod(rhs, m));
                due(shape + "solutions of x(0) = " + rhs, book.solutions(1), shape.assignments() / m);
            }
        }
    }

    private static void addKeepsTheDraftLine() {
        for (Shape shape : SHAPES) {
            for (int s = 0; s < 2; s++) {
                CongruenceBook book = shape.book();
                line(book, -1, 2, 1, 3);
                int[] before = drafted(book);
                for (int i = 1; i <= 11; i++) {
                    book.add(s, i);
                    int[] after = drafted(book);
                    for (int v = 0; v < shape.n(); v++) {
                        due(shape + "drafted(" + v + ") after add " + i, after[v], before[v]);
                    }
                }
            }
            CongruenceBook kept = shape.book();
            kept.draft(0, 1);
            kept.add(0, 1);
            kept.draft(0, 0);
            due(shape + "a congruence does not follow the draft line", kept.nth(0, 0), 1);
        }
    }

    private static int[] drafted(CongruenceBook book) {
        int[] line = new int[book.unknowns()];
        for (int v = 0; v < line.length; v++) {
            line[v] = book.drafted(v);
        }
        return line;
    }

    /** The congruence at position i says x(0) = i, so that what is left alone tells where it stood. */
    private static CongruenceBook counting(int s, int size) {
        CongruenceBook book = new CongruenceBook(1, 4);
        book.draft(0, 1);
        for (int i = 0; i < size; i++) {
            book.add(s, i);
        }
        return book;
    }

    /** What the congruence at position i says x(0) is, seen by dropping the others. */
    private static int saidAt(CongruenceBook book, int s, int i) {
        for (int k = book.size(s) - 1; k >= 0; k--) {
            if (k != i) {
                book.drop(s, k);
            }
        }
        return book.nth(s, 0);
    }

    private static void dropOfFirstAndLast() {
        for (int s = 0; s < 2; s++) {
            CongruenceBook only = counting(s, 1);
            due("drop(" + s + ", 0) of the only one", only.drop(s, 0), 0);
            due("all are left", only.solutions(s), 16);
            for (int size = 2; size <= 10; size++) {
                CongruenceBook first = counting(s, size);
                due("drop(" + s + ", 0) of " + size, first.drop(s, 0), size - 1);
                due("the second is the first now", saidAt(first, s, 0), 1);
                CongruenceBook last = counting(s, size);
                due("drop(" + s + ", " + (size - 1) + ") of " + size, last.drop(s, size - 1), size - 1);
                due("the last but one is the last now", saidAt(last, s, size - 2), size - 2);
            }
        }
    }

    private static void laterOnesMoveDown() {
        for (int s = 0; s < 2; s++) {
            for (int dropped = 0; dropped < 10; dropped++) {
                for (int i = 0; i < 9; i++) {
                    CongruenceBook book = counting(s, 10);
                    book.drop(s, dropped);
                    due("system " + s + " without " + dropped + ", at " + i,
                        saidAt(book, s, i), i < dropped ? i : i + 1);
                }
            }
        }
    }

    private static void copyOfEverySize() {
        for (int s = 0; s < 2; s++) {
            for (int size = 0; size <= 10; size++) {
                for (int held : new int[] {0, 1, 5, 10}) {
                    copies(s, size, held);
                }
            }
        }
    }

    private static CongruenceBook besides(int s, int size, int held) {
        CongruenceBook book = counting(s, size);
        for (int i = 0; i < held; i++) {
            book.add(1 - s, 15);
        }
        return book;
    }

    private static void copies(int s, int size, int held) {
        String at = "copy(" + s + ") of " + size + " over " + held;
        CongruenceBook book = besides(s, size, held);
        due(at, book.copy(s), size);
        due(at + ", size of the source", book.size(s), size);
        due(at + ", size of the copy", book.size(1 - s), size);
        due(at + ", solutions of the copy", book.solutions(1 - s), size == 0 ? 16 : size == 1 ? 1 : 0);
        for (int i = 0; i < size; i++) {
            CongruenceBook again = besides(s, size, held);
            again.copy(s);
            due(at + ", the copy at " + i, saidAt(again, 1 - s, i), i);
            due(at + ", the source stays as long", again.size(s), size);
            due(at + ", the source at " + i, saidAt(again, s, i), i);
        }
    }

    private static void nthOfFirstAndLast() {
        for (Shape shape : SHAPES) {
            int all = shape.assignments();
            int m = shape.modulus();
            for (int s = 0; s < 2; s++) {
                CongruenceBook book = shape.book();
                lineOf(book, shape.n() - 1);
                book.add(s, m - 1);
                int count = all / m;
                due(shape + "the least", book.nth(s, 0), all - count);
                due(shape + "the greatest", book.nth(s, count - 1), all - 1);
            }
            CongruenceBook odd = shape.book();
            put(odd, 0, m / 2, m / 2);
            for (int i = 0; i < Math.min(all / 2, 400); i++) {
                due(shape + "x(0) is odd, nth(0, " + i + ")", odd.nth(0, i), 2 * i + 1);
            }
        }
    }

    private static void belowAnyInt() {
        for (Shape shape : SHAPES) {
            int all = shape.assignments();
            CongruenceBook book = shape.book();
            putAll(book, 1, shape.modulus() - 1);
            for (int bound : new int[] {0, -1, -all, MIN, MIN + 1}) {
                due(shape + "below(0, " + bound + ")", book.below(0, bound), 0);
                due(shape + "below(1, " + bound + ")", book.below(1, bound), 0);
            }
            for (int bound : new int[] {all, all + 1, 2 * all, 513, 65536, MAX - 1, MAX}) {
                due(shape + "below(0, " + bound + ")", book.below(0, bound), all);
                due(shape + "below(1, " + bound + ")", book.below(1, bound), 1);
            }
            due(shape + "below(0, 1)", book.below(0, 1), 1);
            due(shape + "below(0, M^n - 1)", book.below(0, all - 1), all - 1);
            due(shape + "below(1, M^n - 1): it is not less than itself", book.below(1, all - 1), 0);
        }
    }

    private static void entailsOfAnyInt() {
        for (Shape shape : SHAPES) {
            int m = shape.modulus();
            for (int value = 0; value < m; value++) {
                CongruenceBook book = shape.book();
                book.draft(0, 1);
                book.add(0, value);
                for (int c : intsAround(m)) {
                    due(shape + "x(0) = " + value + ": entails(0, " + c + ")",
                        book.entails(0, c), Math.floorMod(c, m) == value ? 1 : 0);
                }
            }
        }
    }

    private static void entailsOfNone() {
        for (Shape shape : SHAPES) {
            CongruenceBook book = contradictory(shape.n(), shape.bits());
            line(book, 1, 1, 1, 1);
            for (int c : intsAround(shape.modulus())) {
                due(shape + "entails(0, " + c + ")", book.entails(0, c), 1);
                due(shape + "entails(1, " + c + ")", book.entails(1, c), 0);
            }
        }
    }

    private static void countAtAnyInt() {
        for (Shape shape : SHAPES) {
            int m = shape.modulus();
            CongruenceBook book = shape.book();
            put(book, 1, m - 1, 1);
            for (int c : intsAround(m)) {
                int reduced = Math.floorMod(c, m);
                due(shape + "countAt(0, " + c + ")", book.countAt(0, c), shape.assignments() / m);
                due(shape + "x(0) = M-1: countAt(1, " + c + ")",
                    book.countAt(1, c), reduced == m - 1 ? shape.assignments() / m : 0);
            }
        }
    }

    private static void valuesOfNone() {
        for (Shape shape : SHAPES) {
            CongruenceBook book = contradictory(shape.n(), shape.bits());
            due(shape + "the zero line over none", book.values(0), 0);
            due(shape + "the zero line over all", book.values(1), 1);
            book.draft(0, 1);
            due(shape + "x(0) over none", book.values(0), 0);
            due(shape + "x(0) over all", book.values(1), shape.modulus());
        }
    }

    private static void withinOfNone() {
        for (Shape shape : SHAPES) {
            CongruenceBook book = contradictory(shape.n(), shape.bits());
            due(shape + "none in all", book.within(0), 1);
            due(shape + "all in none", book.within(1), 0);
            putAll(book, 1, 0);
            due(shape + "none in one", book.within(0), 1);
            due(shape + "one in none", book.within(1), 0);
            put(book, 1, 1);
            due(shape + "none in none", book.within(0), 1);
            due(shape + "none in none, from the other", book.within(1), 1);
            CongruenceBook other = shape.book();
            other.add(1, 1);
            due(shape + "none in all, from system 1", other.within(1), 1);
            due(shape + "all in none, from system 0", other.within(0), 0);
        }
    }

    private static void commonOfAllAndNone() {
        for (Shape shape : SHAPES) {
            CongruenceBook book = shape.book();
            due(shape + "both empty", book.common(), shape.assignments());
            putAll(book, 0, 1);
            due(shape + "one and all", book.common(), 1);
            put(book, 1, 1, 1);
            due(shape + "one and some", book.common(), 1);
            put(book, 1, 0, 1);
            due(shape + "one and none", book.common(), 0);
            CongruenceBook apart = shape.book();
            putAll(apart, 0, 1);
            putAll(apart, 1, 0);
            due(shape + "one and another", apart.common(), 0);
            due(shape + "none and all", contradictory(shape.n(), shape.bits()).common(), 0);
        }
    }

    private static void withoutTheOnlyUnknown() {
        for (int bits = 1; bits <= 4; bits++) {
            int half = 1 << (bits - 1);
            for (int s = 0; s < 2; s++) {
                CongruenceBook book = new CongruenceBook(1, bits);
                String at = bits + " bits, system " + s + ": ";
                due(at + "all are solutions", book.withoutUnknown(s, 0), 1);
                put(book, s, half, half);
                due(at + "half of them are", book.withoutUnknown(s, 0), 1);
                put(book, s, -1, 1);
                due(at + "the last alone is", book.withoutUnknown(s, 0), 1);
                put(book, s, 1, 0);
                due(at + "none is", book.withoutUnknown(s, 0), 0);
                due(at + "in the other all are", book.withoutUnknown(1 - s, 0), 1);
            }
        }
    }

    /** 2^(bits-j) * x(v) = 0 settles the last j digits of x(v), and only these. */
    private static void settledFromNoneToAll() {
        for (Shape shape : SHAPES) {
            for (int v = 0; v < shape.n(); v++) {
                for (int j = 0; j <= shape.bits(); j++) {
                    CongruenceBook book = shape.book();
                    line(book);
                    book.draft(v, 1 << (shape.bits() - j));
                    book.add(1, 0);
                    due(shape + "x(" + v + ") has " + j + " settled digits", book.settledBits(1, v), j);
                    due(shape + "digits of x(" + v + ") in the empty system", book.settledBits(0, v), 0);
                    for (int other = 0; other < shape.n(); other++) {
                        if (other != v) {
                            due(shape + "digits of x(" + other + ")", book.settledBits(1, other), 0);
                        }
                    }
                }
            }
        }
    }

    private static void settledInJustOne() {
        for (Shape shape : SHAPES) {
            for (int value = 0; value < shape.modulus(); value++) {
                CongruenceBook book = shape.book();
                putAll(book, 0, value);
                for (int v = 0; v < shape.n(); v++) {
                    due(shape + "all are " + value + ", x(" + v + ")", book.settledBits(0, v), shape.bits());
                }
            }
        }
    }

    private static void redundantBesideNoneAndAll() {
        for (Shape shape : SHAPES) {
            int m = shape.modulus();
            for (int s = 0; s < 2; s++) {
                CongruenceBook book = shape.book();
                book.add(s, m);
                due(shape + "0 = M alone", book.redundant(s, 0), 1);
                put(book, s, m - 1, 1);
                due(shape + "x(0) = M-1 beside it", book.redundant(s, 1), 0);
                put(book, s, -1, 1);
                due(shape + "the first of two equal ones", book.redundant(s, 1), 1);
                due(shape + "the second of two equal ones", book.redundant(s, 2), 1);
                put(book, s, 1);
                due(shape + "0 = 1 beside solutions", book.redundant(s, 3), 0);
                due(shape + "another beside 0 = 1", book.redundant(s, 2), 1);
                put(book, s, 1);
                due(shape + "0 = 1 twice", book.redundant(s, 3), 1);
                due(shape + "0 = 1 twice, the last", book.redundant(s, 4), 1);
            }
            CongruenceBook alone = contradictory(shape.n(), shape.bits());
            due(shape + "0 = 1 alone", alone.redundant(0, 0), 0);
        }
    }
}
