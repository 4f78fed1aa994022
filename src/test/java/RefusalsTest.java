import java.util.ArrayList;
import java.util.List;
import java.util.function.Supplier;
import java.util.function.ToIntFunction;

/** One test for each sentence of the document by which a call is refused, or by which nothing changes. */
public final class RefusalsTest extends Books {
    private static final int[] NEVER_AN_UNKNOWN = {-1, -2, 4, 5, 256, -256, 65536, MIN, MAX};
    private static final int[] NEVER_A_POSITION = {-1, -2, 10, 11, 256, -256, 65536, MIN, MAX};
    private static final int[] NEVER_AN_INDEX = {-1, -2, 512, 513, 65536, -65536, MIN, MAX};

    /** A call with one argument left open. */
    private interface Call {
        int on(CongruenceBook book, int argument);
    }

    /** A call with the system and one more argument left open. */
    private interface SystemCall {
        int on(CongruenceBook book, int s, int argument);
    }

    private record Named(String name, ToIntFunction<CongruenceBook> call) {
    }

    public static void main(String[] args) {
        noSuchSystem();
        noSuchUnknown();
        noSuchPosition();
        CHECKS.sentence("Promise 11: -2 if i is not in 0 .. solutions(s)-1.", RefusalsTest::nthOutOfRange);
        CHECKS.sentence("Promise 6: -2 if system s holds 10 congruences", RefusalsTest::addToTheFull);
        CHECKS.sentence("Promise 16: -2 if there is no solution.", RefusalsTest::leastValueOfNone);
        CHECKS.sentence("Promise 20: -3 if there is no solution.", RefusalsTest::settledBitsOfNone);
        CHECKS.sentence("Terms: In every method the tests are made in the order named.", RefusalsTest::orderOfTests);
        CHECKS.sentence("Terms: No question changes anything.", RefusalsTest::questionsChangeNothing);
        CHECKS.sentence("Terms: A refused call changes nothing.", RefusalsTest::refusedCallsChangeNothing);
        CHECKS.end();
    }

    private static void noSuchSystem() {
        noSuchSystem(6, "add", (book, s) -> book.add(s, 0));
        noSuchSystem(7, "drop", (book, s) -> book.drop(s, 0));
        noSuchSystem(8, "copy", (book, s) -> book.copy(s));
        noSuchSystem(9, "size", (book, s) -> book.size(s));
        noSuchSystem(10, "solutions", (book, s) -> book.solutions(s));
        noSuchSystem(11, "nth", (book, s) -> book.nth(s, 0));
        noSuchSystem(12, "below", (book, s) -> book.below(s, 1));
        noSuchSystem(13, "entails", (book, s) -> book.entails(s, 0));
        noSuchSystem(14, "countAt", (book, s) -> book.countAt(s, 0));
        noSuchSystem(15, "values", (book, s) -> book.values(s));
        noSuchSystem(16, "leastValue", (book, s) -> book.leastValue(s));
        noSuchSystem(17, "within", (book, s) -> book.within(s));
        noSuchSystem(19, "withoutUnknown", (book, s) -> book.withoutUnknown(s, 0));
        noSuchSystem(20, "settledBits", (book, s) -> book.settledBits(s, 0));
        noSuchSystem(21, "redundant", (book, s) -> book.redundant(s, 0));
    }

    private static void noSuchSystem(int promise, String method, Call call) {
        CHECKS.sentence("Promise " + promise + ": -1 if s is not 0 or 1", () -> {
            for (Shape shape : SHAPES) {
                for (int held : new int[] {0, 1, 10}) {
                    CongruenceBook book = bothHolding(shape, held, 0);
                    String at = shape + "both hold " + held + ": " + method + " of system ";
                    for (int s : NOT_A_SYSTEM) {
                        due(at + s, call.on(book, s), -1);
                    }
                    CHECKS.holds(at + "0 is not refused so", call.on(book, 0) != -1);
                    CHECKS.holds(at + "1 is not refused so", call.on(book, 1) != -1);
                }
            }
        });
    }

    /** Both systems hold 0 = rhs so many times. */
    private static CongruenceBook bothHolding(Shape shape, int held, int rhs) {
        CongruenceBook book = shape.book();
        for (int i = 0; i < held; i++) {
            book.add(0, rhs);
            book.add(1, rhs);
        }
        return book;
    }

    private static void noSuchUnknown() {
        noSuchUnknown(4, -1, "draft", (book, s, v) -> book.draft(v, 1));
        noSuchUnknown(5, -1, "drafted", (book, s, v) -> book.drafted(v));
        noSuchUnknown(19, -2, "withoutUnknown", (book, s, v) -> book.withoutUnknown(s, v));
        noSuchUnknown(20, -2, "settledBits", (book, s, v) -> book.settledBits(s, v));
    }

    private static void noSuchUnknown(int promise, int answer, String method, SystemCall call) {
        CHECKS.sentence("Promise " + promise + ": " + answer + " if v is not in 0 .. n-1", () -> {
            for (Shape shape : SHAPES) {
                for (int s = 0; s < 2; s++) {
                    CongruenceBook book = shape.book();
                    String at = shape + method + " in system " + s + " of unknown ";
                    for (int v : NEVER_AN_UNKNOWN) {
                        due(at + v, call.on(book, s, v), answer);
                    }
                    for (int v = shape.n(); v < 4; v++) {
                        due(at + v, call.on(book, s, v), answer);
                    }
                    for (int v = 0; v < shape.n(); v++) {
                        CHECKS.holds(at + v + " is not refused", call.on(book, s, v) >= 0);
                    }
                }
            }
        });
    }

    private static void noSuchPosition() {
        noSuchPosition(7, "drop", (book, s, i) -> book.drop(s, i));
        noSuchPosition(21, "redundant", (book, s, i) -> book.redundant(s, i));
    }

    private static void noSuchPosition(int promise, String method, SystemCall call) {
        CHECKS.sentence("Promise " + promise + ": -2 if i is not in 0 .. size(s)-1", () -> {
            for (int s = 0; s < 2; s++) {
                for (int size = 0; size <= 10; size++) {
                    String at = "size " + size + ": " + method + "(" + s + ", ";
                    for (int i : NEVER_A_POSITION) {
                        due(at + i + ")", call.on(oneHolding(s, size), s, i), -2);
                    }
                    for (int i = size; i < 10; i++) {
                        due(at + i + ")", call.on(oneHolding(s, size), s, i), -2);
                    }
                    for (int i = 0; i < size; i++) {
                        CHECKS.holds(at + i + ") is not refused", call.on(oneHolding(s, size), s, i) >= 0);
                    }
                }
            }
        });
    }

    /** The other system holds another number of congruences, so that taking its size would show. */
    private static CongruenceBook oneHolding(int s, int size) {
        CongruenceBook book = new CongruenceBook(2, 2);
        for (int i = 0; i < size; i++) {
            book.add(s, 0);
        }
        for (int i = 0; i < 10 - size; i++) {
            book.add(1 - s, 0);
        }
        return book;
    }

    private static void nthOutOfRange() {
        for (Shape shape : SHAPES) {
            for (int s = 0; s < 2; s++) {
                CongruenceBook book = shape.book();
                nthOutOfRange(shape + "all, ", book, s, shape.assignments());
                put(book, s, shape.modulus() - 1, 1);
                nthOutOfRange(shape + "x(0) = M-1, ", book, s, shape.assignments() / shape.modulus());
                putAll(book, s, shape.modulus() - 1);
                nthOutOfRange(shape + "just one, ", book, s, 1);
                put(book, s, 1);
                nthOutOfRange(shape + "none, ", book, s, 0);
            }
        }
    }

    private static void nthOutOfRange(String at, CongruenceBook book, int s, int count) {
        due(at + "solutions(" + s + ")", book.solutions(s), count);
        for (int i : NEVER_AN_INDEX) {
            due(at + "nth(" + s + ", " + i + ")", book.nth(s, i), -2);
        }
        due(at + "nth(" + s + ", " + count + ")", book.nth(s, count), -2);
        due(at + "nth(" + s + ", " + (count + 1) + ")", book.nth(s, count + 1), -2);
        if (count > 0) {
            CHECKS.holds(at + "the first is not refused", book.nth(s, 0) >= 0);
            CHECKS.holds(at + "the last is not refused", book.nth(s, count - 1) >= 0);
        }
    }

    private static void addToTheFull() {
        for (Shape shape : SHAPES) {
            for (int s = 0; s < 2; s++) {
                CongruenceBook book = shape.book();
                for (int held = 1; held <= 10; held++) {
                    due(shape + "add(" + s + ", 0)", book.add(s, 0), held);
                }
                due(shape + "add(" + s + ", 0) to ten", book.add(s, 0), -2);
                due(shape + "add(" + s + ", 1) to ten", book.add(s, 1), -2);
                due(shape + "the other is not full", book.add(1 - s, 0), 1);
                due(shape + "still full", book.add(s, -1), -2);
                due(shape + "drop(" + s + ", 0)", book.drop(s, 0), 9);
                due(shape + "add(" + s + ", 0) to nine", book.add(s, 0), 10);
                due(shape + "full again", book.add(s, 0), -2);
                due(shape + "copy(" + s + ")", book.copy(s), 10);
                due(shape + "the copy is full too", book.add(1 - s, 0), -2);
            }
        }
    }

    /** System s has no solution, by 0 = 1 or by x(0) = 0 and x(0) = 1; the other one is empty. */
    private static CongruenceBook withoutSolution(Shape shape, int s, boolean atOnce) {
        CongruenceBook book = shape.book();
        if (atOnce) {
            book.add(s, 1);
        }
        book.draft(0, 1);
        if (!atOnce) {
            book.add(s, 0);
            book.add(s, 1);
        }
        return book;
    }

    private static void leastValueOfNone() {
        for (Shape shape : SHAPES) {
            for (int s = 0; s < 2; s++) {
                CongruenceBook atOnce = withoutSolution(shape, s, true);
                due(shape + "0 = 1: leastValue(" + s + ")", atOnce.leastValue(s), -2);
                due(shape + "0 = 1: the other", atOnce.leastValue(1 - s), 0);
                CongruenceBook byTwo = withoutSolution(shape, s, false);
                due(shape + "x = 0, x = 1: leastValue(" + s + ")", byTwo.leastValue(s), -2);
                due(shape + "x = 0, x = 1: the other", byTwo.leastValue(1 - s), 0);
                byTwo.drop(s, 0);
                due(shape + "x = 1: leastValue(" + s + ")", byTwo.leastValue(s), 1);
            }
        }
    }

    private static void settledBitsOfNone() {
        for (Shape shape : SHAPES) {
            for (int s = 0; s < 2; s++) {
                CongruenceBook atOnce = withoutSolution(shape, s, true);
                CongruenceBook byTwo = withoutSolution(shape, s, false);
                for (int v = 0; v < shape.n(); v++) {
                    String at = "settledBits(" + s + ", " + v + ")";
                    due(shape + "0 = 1: " + at, atOnce.settledBits(s, v), -3);
                    due(shape + "x = 0, x = 1: " + at, byTwo.settledBits(s, v), -3);
                    due(shape + "the other", byTwo.settledBits(1 - s, v), 0);
                }
                byTwo.drop(s, 1);
                due(shape + "x = 0", byTwo.settledBits(s, 0), shape.bits());
            }
        }
    }

    private static void orderOfTests() {
        for (Shape shape : SHAPES) {
            CongruenceBook full = bothHolding(shape, 10, 0);
            CongruenceBook none = bothHolding(shape, 1, 1);
            int n = shape.n();
            for (int s : NOT_A_SYSTEM) {
                String at = shape + "system " + s + ": ";
                due(at + "add to the full", full.add(s, 0), -1);
                due(at + "drop of position 10", full.drop(s, 10), -1);
                due(at + "redundant of position -1", full.redundant(s, -1), -1);
                due(at + "nth of none", none.nth(s, 0), -1);
                due(at + "leastValue of none", none.leastValue(s), -1);
                due(at + "withoutUnknown of unknown n", none.withoutUnknown(s, n), -1);
                due(at + "settledBits of unknown -1 in none", none.settledBits(s, -1), -1);
                due(at + "settledBits in none", none.settledBits(s, 0), -1);
            }
            due(shape + "settledBits of unknown n in none", none.settledBits(0, n), -2);
            due(shape + "settledBits of unknown -1 in none", none.settledBits(1, -1), -2);
            due(shape + "withoutUnknown of unknown n in none", none.withoutUnknown(0, n), -2);
        }
    }

    /** A book in some state; its measures stand here so that no question need be asked for them. */
    private record State(Supplier<CongruenceBook> maker, int n, int size0, int size1) {
        CongruenceBook book() {
            return maker.get();
        }

        int size(int s) {
            return s == 0 ? size0 : size1;
        }

        State after(Named named) {
            return new State(() -> {
                CongruenceBook book = maker.get();
                named.call().applyAsInt(book);
                return book;
            }, n, size0, size1);
        }
    }

    private static final State HALF_FILLED = new State(RefusalsTest::halfFilled, 2, 2, 3);
    private static final State BOTH_FULL = new State(RefusalsTest::bothFull, 4, 10, 10);
    private static final List<State> STATES = List.of(
        new State(() -> new CongruenceBook(2, 2), 2, 0, 0), HALF_FILLED, BOTH_FULL);

    /** System 0 has solutions, system 1 has none; the draft line is in neither. */
    private static CongruenceBook halfFilled() {
        CongruenceBook book = new CongruenceBook(2, 2);
        fill(book, 0, 3, 1, 2);
        fill(book, 0, 2, 2, 0);
        fill(book, 1, 1, 0, 1);
        fill(book, 1, 2, 0, 1);
        fill(book, 1, 2, 3, 2);
        book.draft(0, 3);
        book.draft(1, 1);
        return book;
    }

    private static CongruenceBook bothFull() {
        CongruenceBook book = new CongruenceBook(4, 1);
        for (int i = 0; i < 10; i++) {
            fill(book, 0, i, 1, i, i / 2, i / 4);
            fill(book, 1, i / 3, i, 1, i / 4, i / 2);
        }
        book.draft(1, 0);
        return book;
    }

    /** Like put, but with neither a question nor a refused call, as these are what is tested. */
    private static void fill(CongruenceBook book, int s, int rhs, int... coefficients) {
        for (int v = 0; v < coefficients.length; v++) {
            book.draft(v, coefficients[v]);
        }
        book.add(s, rhs);
    }

    /** All that calls can tell of a book; it is made anew for each congruence, which is seen by dropping the others. */
    private static List<Integer> told(State state) {
        List<Integer> told = new ArrayList<>();
        CongruenceBook book = state.book();
        for (int v = 0; v < state.n(); v++) {
            told.add(book.drafted(v));
        }
        for (int s = 0; s < 2; s++) {
            for (int i = 0; i < state.size(s); i++) {
                tellOne(told, state, s, i);
            }
            told.add(state.book().drop(s, state.size(s)));
        }
        told.addAll(List.of(book.size(0), book.size(1), book.unknowns(), book.modulus()));
        return told;
    }

    private static void tellOne(List<Integer> told, State state, int s, int i) {
        CongruenceBook book = state.book();
        for (int k = state.size(s) - 1; k >= 0; k--) {
            if (k != i) {
                told.add(book.drop(s, k));
            }
        }
        for (int k = 0; k < 16; k++) {
            told.add(book.nth(s, k));
        }
    }

    private static void changesNothing(State state, Named named) {
        CHECKS.holds(named.name() + " changes nothing", told(state.after(named)).equals(told(state)));
        CongruenceBook book = state.book();
        int first = named.call().applyAsInt(book);
        due(named.name() + " again", named.call().applyAsInt(book), first);
    }

    private static void questionsChangeNothing() {
        for (State state : STATES) {
            changesNothing(state, new Named("unknowns", book -> book.unknowns()));
            changesNothing(state, new Named("modulus", book -> book.modulus()));
            changesNothing(state, new Named("drafted", book -> book.drafted(1)));
            changesNothing(state, new Named("common", book -> book.common()));
            for (Named question : questionsTo(0)) {
                changesNothing(state, question);
            }
            for (Named question : questionsTo(1)) {
                changesNothing(state, question);
            }
        }
    }

    private static List<Named> questionsTo(int s) {
        return List.of(
            new Named("size of " + s, book -> book.size(s)),
            new Named("solutions of " + s, book -> book.solutions(s)),
            new Named("nth of " + s, book -> book.nth(s, 1)),
            new Named("below of " + s, book -> book.below(s, 9)),
            new Named("entails of " + s, book -> book.entails(s, 5)),
            new Named("countAt of " + s, book -> book.countAt(s, -1)),
            new Named("values of " + s, book -> book.values(s)),
            new Named("leastValue of " + s, book -> book.leastValue(s)),
            new Named("within of " + s, book -> book.within(s)),
            new Named("withoutUnknown of " + s, book -> book.withoutUnknown(s, 1)),
            new Named("settledBits of " + s, book -> book.settledBits(s, 1)),
            new Named("redundant of " + s, book -> book.redundant(s, 0)));
    }

    private static void refusedCallsChangeNothing() {
        for (State state : STATES) {
            for (int s : NOT_A_SYSTEM) {
                systemRefusedWithoutChange(state, s);
            }
            for (int v : NEVER_AN_UNKNOWN) {
                unknownRefusedWithoutChange(state, v);
            }
            unknownRefusedWithoutChange(state, state.n());
            for (int s = 0; s < 2; s++) {
                for (int i : NEVER_A_POSITION) {
                    positionRefusedWithoutChange(state, s, i);
                }
                positionRefusedWithoutChange(state, s, state.size(s));
            }
        }
        for (int rhs = 0; rhs < 2; rhs++) {
            int side = rhs;
            refusedWithoutChange(BOTH_FULL, new Named("add to the full 0", book -> book.add(0, side)));
            refusedWithoutChange(BOTH_FULL, new Named("add to the full 1", book -> book.add(1, side)));
        }
        refusedWithoutChange(HALF_FILLED, new Named("leastValue of none", book -> book.leastValue(1)));
        refusedWithoutChange(HALF_FILLED, new Named("settledBits of none", book -> book.settledBits(1, 0)));
        refusedWithoutChange(HALF_FILLED, new Named("nth of none", book -> book.nth(1, 0)));
    }

    private static void systemRefusedWithoutChange(State state, int s) {
        for (Named question : questionsTo(s)) {
            refusedWithoutChange(state, question);
        }
        refusedWithoutChange(state, new Named("add to " + s, book -> book.add(s, 1)));
        refusedWithoutChange(state, new Named("drop from " + s, book -> book.drop(s, 0)));
        refusedWithoutChange(state, new Named("copy of " + s, book -> book.copy(s)));
    }

    private static void unknownRefusedWithoutChange(State state, int v) {
        refusedWithoutChange(state, new Named("draft of " + v, book -> book.draft(v, 2)));
        refusedWithoutChange(state, new Named("drafted of " + v, book -> book.drafted(v)));
        refusedWithoutChange(state, new Named("withoutUnknown of " + v, book -> book.withoutUnknown(0, v)));
        refusedWithoutChange(state, new Named("settledBits of " + v, book -> book.settledBits(0, v)));
    }

    private static void positionRefusedWithoutChange(State state, int s, int i) {
        refusedWithoutChange(state, new Named("drop of " + s + ", " + i, book -> book.drop(s, i)));
        refusedWithoutChange(state, new Named("redundant of " + s + ", " + i, book -> book.redundant(s, i)));
    }

    private static void refusedWithoutChange(State state, Named named) {
        CHECKS.holds(named.name() + " is refused", named.call().applyAsInt(state.book()) < 0);
        changesNothing(state, named);
    }
}
