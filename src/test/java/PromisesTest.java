/** For each promise: ordinary inputs, the edges that the document names, and wrong inputs. */
public final class PromisesTest extends Books {
    public static void main(String[] args) {
        promise01NewObject();
        promise02Unknowns();
        promise03Modulus();
        promise04Draft();
        promise05Drafted();
        promise06Add();
        promise07Drop();
        promise08Copy();
        promise09Size();
        promise10Solutions();
        promise11Nth();
        promise12Below();
        promise13Entails();
        promise14CountAt();
        promise15Values();
        promise16LeastValue();
        promise17Within();
        promise18Common();
        promise19WithoutUnknown();
        promise20SettledBits();
        promise21Redundant();
        CHECKS.end();
    }

    private static void clamps(int vars, int bits, int n, int m) {
        String made = "new CongruenceBook(" + vars + ", " + bits + ")";
        CongruenceBook book = new CongruenceBook(vars, bits);
        due(made + ".unknowns()", book.unknowns(), n);
        due(made + ".modulus()", book.modulus(), m);
        int all = 1;
        for (int v = 0; v < n; v++) {
            all *= m;
        }
        for (int s = 0; s < 2; s++) {
            due(made + ".size(" + s + ")", book.size(s), 0);
            due(made + ".solutions(" + s + ")", book.solutions(s), all);
            due(made + ".nth(" + s + ", last)", book.nth(s, all - 1), all - 1);
        }
        due(made + ".common()", book.common(), all);
        for (int v = 0; v < n; v++) {
            due(made + ".drafted(" + v + ")", book.drafted(v), 0);
        }
        due(made + ".drafted(n)", book.drafted(n), -1);
    }

    private static void promise01NewObject() {
        int[] mostBits = {0, 4, 4, 3, 2};
        for (int n = 1; n <= 4; n++) {
            for (int bits = 1; bits <= 5; bits++) {
                clamps(n, bits, n, 1 << Math.min(bits, mostBits[n]));
            }
            clamps(n, 0, n, 2);
            clamps(n, -7, n, 2);
            clamps(n, Integer.MIN_VALUE, n, 2);
            clamps(n, Integer.MAX_VALUE, n, 1 << mostBits[n]);
        }
        clamps(0, 4, 1, 16);
        clamps(-1, 9, 1, 16);
        clamps(Integer.MIN_VALUE, 3, 1, 8);
        clamps(5, 4, 4, 4);
        clamps(5, 1, 4, 2);
        clamps(Integer.MAX_VALUE, Integer.MAX_VALUE, 4, 4);
        clamps(Integer.MIN_VALUE, Integer.MIN_VALUE, 1, 2);
    }

    private static void promise02Unknowns() {
        CongruenceBook book = new CongruenceBook(3, 2);
        due("unknowns()", book.unknowns(), 3);
        put(book, 0, 1, 1, 2, 3);
        book.copy(0);
        book.drop(0, 0);
        due("unknowns() after changes", book.unknowns(), 3);
    }

    private static void promise03Modulus() {
        CongruenceBook book = new CongruenceBook(3, 2);
        due("modulus()", book.modulus(), 4);
        put(book, 0, 1, 1, 2, 3);
        due("modulus() after changes", book.modulus(), 4);
    }

    private static void promise04Draft() {
        CongruenceBook book = new CongruenceBook(2, 4);
        due("draft(0, 5)", book.draft(0, 5), 5);
        due("draft(1, 15)", book.draft(1, 15), 15);
        due("drafted(0)", book.drafted(0), 5);
        due("drafted(1)", book.drafted(1), 15);
        due("draft(0, 16)", book.draft(0, 16), 0);
        due("draft(0, 37)", book.draft(0, 37), 5);
        due("draft(0, -1)", book.draft(0, -1), 15);
        due("draft(0, -16)", book.draft(0, -16), 0);
        due("draft(0, -17)", book.draft(0, -17), 15);
        due("draft(0, MAX)", book.draft(0, Integer.MAX_VALUE), 15);
        due("draft(0, MIN)", book.draft(0, Integer.MIN_VALUE), 0);
        due("draft(0, MIN + 3)", book.draft(0, Integer.MIN_VALUE + 3), 3);
        due("draft(2, 1)", book.draft(2, 1), -1);
        due("draft(-1, 1)", book.draft(-1, 1), -1);
        due("draft(MAX, 1)", book.draft(Integer.MAX_VALUE, 1), -1);
        due("draft(MIN, 1)", book.draft(Integer.MIN_VALUE, 1), -1);
        due("drafted(0) after refusals", book.drafted(0), 3);
        due("drafted(1) after refusals", book.drafted(1), 15);
        CongruenceBook one = new CongruenceBook(1, 1);
        due("modulo 2: draft(0, -3)", one.draft(0, -3), 1);
        due("modulo 2: draft(1, 1)", one.draft(1, 1), -1);
        CongruenceBook four = new CongruenceBook(4, 2);
        due("four: draft(3, 7)", four.draft(3, 7), 3);
        due("four: draft(4, 7)", four.draft(4, 7), -1);
    }

    private static void promise05Drafted() {
        CongruenceBook book = new CongruenceBook(4, 2);
        line(book, 3, 2, 1, 3);
        due("drafted(0)", book.drafted(0), 3);
        due("drafted(1)", book.drafted(1), 2);
        due("drafted(2)", book.drafted(2), 1);
        due("drafted(3)", book.drafted(3), 3);
        due("drafted(4)", book.drafted(4), -1);
        due("drafted(-1)", book.drafted(-1), -1);
        due("drafted(MIN)", book.drafted(Integer.MIN_VALUE), -1);
        due("drafted(MAX)", book.drafted(Integer.MAX_VALUE), -1);
        CongruenceBook two = new CongruenceBook(2, 2);
        due("two: drafted(2)", two.drafted(2), -1);
    }

    private static void promise06Add() {
        CongruenceBook book = new CongruenceBook(2, 3);
        line(book, 1, 2);
        due("add(0, 5)", book.add(0, 5), 1);
        due("drafted(0) after add", book.drafted(0), 1);
        due("drafted(1) after add", book.drafted(1), 2);
        due("size(1) after add(0, ..)", book.size(1), 0);
        due("solutions(0)", book.solutions(0), 8);
        due("nth(0, 0)", book.nth(0, 0), 5);
        due("nth(0, 1)", book.nth(0, 1), 8 + 3);
        line(book, 0, 1);
        due("a later draft changes no congruence", book.solutions(0), 8);
        due("add(0, -1)", book.add(0, -1), 2);
        due("-1 is 7", book.nth(0, 0), 7 * 8 + 7);
        due("just one", book.solutions(0), 1);
        due("add(1, MAX)", book.add(1, Integer.MAX_VALUE), 1);
        due("MAX is 7", book.nth(1, 0), 7 * 8);
        due("add(1, MIN + 7)", book.add(1, Integer.MIN_VALUE + 7), 2);
        due("MIN + 7 is 7", book.solutions(1), 8);
        for (int s : NOT_A_SYSTEM) {
            due("add(" + s + ", 0)", book.add(s, 0), -1);
        }
        due("size(0) after refusals", book.size(0), 2);
        due("size(1) after refusals", book.size(1), 2);
        addToTheFull();
    }

    private static void addToTheFull() {
        CongruenceBook book = new CongruenceBook(4, 2);
        line(book, 0, 0, 0, 1);
        for (int i = 1; i <= 10; i++) {
            due("add(0, 2) number " + i, book.add(0, 2), i);
        }
        due("add(0, 3) to the full", book.add(0, 3), -2);
        due("size(0) of the full", book.size(0), 10);
        due("solutions(0) of the full", book.solutions(0), 64);
        due("size(1) beside the full", book.size(1), 0);
        due("solutions(1) beside the full", book.solutions(1), 256);
        due("the system is looked at first", book.add(2, 3), -1);
        for (int i = 1; i <= 10; i++) {
            due("add(1, 1) number " + i, book.add(1, 1), i);
        }
        due("add(1, 1) to the full", book.add(1, 1), -2);
        due("solutions(0) with both full", book.solutions(0), 64);
        due("solutions(1) with both full", book.solutions(1), 64);
        due("drop(0, 9)", book.drop(0, 9), 9);
        due("add(0, 3) after drop", book.add(0, 3), 10);
        due("the tenth counts", book.solutions(0), 0);
    }

    private static void promise07Drop() {
        CongruenceBook book = new CongruenceBook(2, 2);
        put(book, 0, 1, 1, 0);
        put(book, 0, 2, 0, 1);
        put(book, 0, 0, 2, 2);
        due("contradictory at first", book.solutions(0), 0);
        due("drop(0, 3)", book.drop(0, 3), -2);
        due("drop(0, -1)", book.drop(0, -1), -2);
        due("drop(0, MAX)", book.drop(0, Integer.MAX_VALUE), -2);
        due("drop(0, MIN)", book.drop(0, Integer.MIN_VALUE), -2);
        due("drop(1, 0) of the empty", book.drop(1, 0), -2);
        for (int s : NOT_A_SYSTEM) {
            due("drop(" + s + ", 0)", book.drop(s, 0), -1);
            due("drop(" + s + ", 99)", book.drop(s, 99), -1);
        }
        due("size(0) after refusals", book.size(0), 3);
        due("drop(0, 0)", book.drop(0, 0), 2);
        due("size(0)", book.size(0), 2);
        due("x(1) = 2, x(0) even", book.nth(0, 0), 8);
        due("x(1) = 2, x(0) even, next", book.nth(0, 1), 10);
        due("two of them", book.solutions(0), 2);
        due("drop(0, 1) the last", book.drop(0, 1), 1);
        due("x(1) = 2", book.solutions(0), 4);
        due("x(1) = 2, last", book.nth(0, 3), 11);
        due("drop(0, 1) is past the end", book.drop(0, 1), -2);
        due("drop(0, 0) the only one", book.drop(0, 0), 0);
        due("empty again", book.solutions(0), 16);
        due("drop(0, 0) of the empty", book.drop(0, 0), -2);
        dropKeepsOrder();
    }

    private static void dropKeepsOrder() {
        CongruenceBook book = new CongruenceBook(1, 4);
        put(book, 1, 3, 1);
        put(book, 0, 8, 8);
        put(book, 0, 4, 4);
        put(book, 0, 2, 2);
        put(book, 0, 1, 1);
        due("x = 1 settles all others", book.solutions(0), 1);
        due("drop(0, 1)", book.drop(0, 1), 3);
        due("drop(0, 2), which was at 3", book.drop(0, 2), 2);
        due("8x = 8, 2x = 2", book.solutions(0), 2);
        due("8x = 8 is implied", book.redundant(0, 0), 1);
        due("2x = 2 is not", book.redundant(0, 1), 0);
        due("the other system stays", book.nth(1, 0), 3);
        due("the other system stays so long", book.size(1), 1);
        dropFromTheFull();
    }

    private static void dropFromTheFull() {
        for (int s = 0; s < 2; s++) {
            for (int i = 0; i < 10; i++) {
                CongruenceBook book = new CongruenceBook(4, 2);
                line(book, 0, 0, 0, 1);
                for (int k = 0; k < 10; k++) {
                    book.add(s, k == i ? 1 : 2);
                    book.add(1 - s, 3);
                }
                due("full: solutions(" + s + ") at first", book.solutions(s), 0);
                due("full: drop(" + s + ", " + i + ")", book.drop(s, i), 9);
                due("full: solutions(" + s + ")", book.solutions(s), 64);
                due("full: the least", book.nth(s, 0), 128);
                due("full: the other's size", book.size(1 - s), 10);
                due("full: the other's least", book.nth(1 - s, 0), 192);
                due("full: the other's last is still there", book.drop(1 - s, 9), 9);
            }
        }
    }

    private static void promise08Copy() {
        CongruenceBook book = new CongruenceBook(2, 2);
        put(book, 0, 1, 1, 1);
        put(book, 0, 2, 2, 0);
        put(book, 1, 3, 0, 1);
        put(book, 1, 3, 0, 3);
        put(book, 1, 3, 1, 3);
        for (int s : NOT_A_SYSTEM) {
            due("copy(" + s + ")", book.copy(s), -1);
        }
        due("size(0) after refusals", book.size(0), 2);
        due("size(1) after refusals", book.size(1), 3);
        due("copy(0)", book.copy(0), 2);
        due("size(1)", book.size(1), 2);
        due("size(0)", book.size(0), 2);
        due("solutions(1)", book.solutions(1), 2);
        due("nth(1, 0)", book.nth(1, 0), 1);
        due("nth(1, 1)", book.nth(1, 1), 2 * 4 + 3);
        due("within(0)", book.within(0), 1);
        due("within(1)", book.within(1), 1);
        due("drop(1, 0)", book.drop(1, 0), 1);
        due("the source does not follow", book.size(0), 2);
        due("the source keeps its solutions", book.solutions(0), 2);
        due("copy(1)", book.copy(1), 1);
        due("copied back", book.size(0), 1);
        due("copied back, solutions", book.solutions(0), 8);
        book.drop(0, 0);
        due("copy(0) of the empty", book.copy(0), 0);
        due("size(1) of the empty", book.size(1), 0);
        due("solutions(1) of the empty", book.solutions(1), 16);
        due("the draft line stays", book.drafted(1), 3);
        copyOfTheFull();
    }

    private static void copyOfTheFull() {
        CongruenceBook book = new CongruenceBook(4, 2);
        line(book, 0, 0, 2, 0);
        for (int i = 0; i < 9; i++) {
            book.add(1, 2);
        }
        put(book, 1, 3, 0, 0, 0, 1);
        due("copy(1) of the full", book.copy(1), 10);
        due("size(0) of the copied full", book.size(0), 10);
        due("solutions(0) of the copied full", book.solutions(0), 32);
        due("add(0, 0) to the copied full", book.add(0, 0), -2);
        due("the tenth is copied", book.redundant(0, 9), 0);
    }

    private static void promise09Size() {
        CongruenceBook book = new CongruenceBook(2, 2);
        due("size(0)", book.size(0), 0);
        due("size(1)", book.size(1), 0);
        book.add(1, 0);
        book.add(1, 0);
        due("size(0)", book.size(0), 0);
        due("size(1) counts equal ones", book.size(1), 2);
        for (int s : NOT_A_SYSTEM) {
            due("size(" + s + ")", book.size(s), -1);
        }
    }

    private static void promise10Solutions() {
        CongruenceBook book = new CongruenceBook(3, 3);
        due("solutions(0) of the empty", book.solutions(0), 512);
        put(book, 0, 4, 4, 4, 4);
        due("4x+4y+4z = 4", book.solutions(0), 256);
        put(book, 0, 0, 1);
        due("and x = 0", book.solutions(0), 32);
        put(book, 0, 2, 0, 2, 6);
        due("and 2y+6z = 2", book.solutions(0), 16);
        put(book, 0, 3, 0, 2, 6);
        due("and 2y+6z = 3", book.solutions(0), 0);
        due("solutions(1)", book.solutions(1), 512);
        put(book, 1, 0);
        due("0 = 0", book.solutions(1), 512);
        put(book, 1, 8);
        due("0 = 8", book.solutions(1), 512);
        put(book, 1, 4);
        due("0 = 4", book.solutions(1), 0);
        for (int s : NOT_A_SYSTEM) {
            due("solutions(" + s + ")", book.solutions(s), -1);
        }
    }

    private static void promise11Nth() {
        CongruenceBook book = new CongruenceBook(2, 4);
        due("nth(0, 0) of the empty", book.nth(0, 0), 0);
        due("nth(0, 255) of the empty", book.nth(0, 255), 255);
        due("nth(0, 256) of the empty", book.nth(0, 256), -2);
        put(book, 0, 3, 1, 15);
        due("x = y + 3: nth(0, 0)", book.nth(0, 0), 3);
        due("x = y + 3: nth(0, 1)", book.nth(0, 1), 16 + 4);
        due("x = y + 3: nth(0, 13)", book.nth(0, 13), 13 * 16);
        due("x = y + 3: nth(0, 15)", book.nth(0, 15), 15 * 16 + 2);
        due("nth(0, 16)", book.nth(0, 16), -2);
        due("nth(0, -1)", book.nth(0, -1), -2);
        due("nth(0, MIN)", book.nth(0, Integer.MIN_VALUE), -2);
        due("nth(0, MAX)", book.nth(0, Integer.MAX_VALUE), -2);
        for (int s : NOT_A_SYSTEM) {
            due("nth(" + s + ", 0)", book.nth(s, 0), -1);
            due("nth(" + s + ", -1)", book.nth(s, -1), -1);
        }
        due("nth(0, 0) of none", contradictory(2, 4).nth(0, 0), -2);
        due("nth(1, 0) beside none", contradictory(2, 4).nth(1, 0), 0);
    }

    private static void promise12Below() {
        CongruenceBook book = new CongruenceBook(1, 4);
        put(book, 1, 8, 4);
        due("below(1, 2): 2 itself is not", book.below(1, 2), 0);
        due("below(1, 3)", book.below(1, 3), 1);
        due("below(1, 6)", book.below(1, 6), 1);
        due("below(1, 14)", book.below(1, 14), 3);
        due("below(1, 15)", book.below(1, 15), 4);
        due("below(1, 16)", book.below(1, 16), 4);
        due("below(1, 0)", book.below(1, 0), 0);
        due("below(1, -1) is not reduced", book.below(1, -1), 0);
        due("below(1, 19) is not reduced", book.below(1, 19), 4);
        due("below(1, MAX)", book.below(1, Integer.MAX_VALUE), 4);
        due("below(1, MIN)", book.below(1, Integer.MIN_VALUE), 0);
        due("below(0, 1)", book.below(0, 1), 1);
        due("below(0, 0)", book.below(0, 0), 0);
        for (int s : NOT_A_SYSTEM) {
            due("below(" + s + ", 5)", book.below(s, 5), -1);
            due("below(" + s + ", -5)", book.below(s, -5), -1);
        }
        CongruenceBook wide = new CongruenceBook(3, 3);
        due("below(0, 512)", wide.below(0, 512), 512);
        due("below(0, 511)", wide.below(0, 511), 511);
        due("below(0, 513)", wide.below(0, 513), 512);
    }

    private static void promise13Entails() {
        CongruenceBook book = new CongruenceBook(2, 3);
        put(book, 0, 3, 1, 2);
        line(book, 2, 4);
        due("2x+4y is 6", book.entails(0, 6), 1);
        due("-2 is 6", book.entails(0, -2), 1);
        due("MAX - 1 is 6", book.entails(0, Integer.MAX_VALUE - 1), 1);
        due("MIN + 6 is 6", book.entails(0, Integer.MIN_VALUE + 6), 1);
        due("2x+4y is not 2", book.entails(0, 2), 0);
        due("not in the empty system", book.entails(1, 6), 0);
        line(book, 1, 0);
        due("x is not settled", book.entails(0, 3), 0);
        line(book, 0, 0);
        due("0 is 0", book.entails(1, 0), 1);
        due("0 is 8", book.entails(1, 8), 1);
        due("0 is not 1", book.entails(1, 1), 0);
        for (int s : NOT_A_SYSTEM) {
            due("entails(" + s + ", 0)", book.entails(s, 0), -1);
        }
        CongruenceBook zero = new CongruenceBook(1, 3);
        put(zero, 0, 0, 1);
        due("0 alone: x is 0", zero.entails(0, 0), 1);
        due("0 alone: x is not 1", zero.entails(0, 1), 0);
        CongruenceBook last = new CongruenceBook(1, 3);
        put(last, 0, 7, 1);
        due("7 alone: x is 7", last.entails(0, 7), 1);
        due("7 alone: x is not 0", last.entails(0, 0), 0);
        CongruenceBook none = contradictory(2, 3);
        for (int c = -1; c <= 8; c++) {
            due("no solution: entails(0, " + c + ")", none.entails(0, c), 1);
        }
    }

    private static void promise14CountAt() {
        CongruenceBook book = new CongruenceBook(2, 3);
        put(book, 0, 2, 2, 0);
        line(book, 1, 2);
        due("countAt(0, 1)", book.countAt(0, 1), 4);
        due("countAt(0, 0): x is odd", book.countAt(0, 0), 0);
        due("countAt(0, -1)", book.countAt(0, -1), 4);
        due("countAt(0, 11)", book.countAt(0, 11), 4);
        due("countAt(0, MAX)", book.countAt(0, Integer.MAX_VALUE), 4);
        due("countAt(0, MIN)", book.countAt(0, Integer.MIN_VALUE), 0);
        due("countAt(1, 0)", book.countAt(1, 0), 8);
        line(book, 0, 0);
        due("the zero line at 0", book.countAt(1, 0), 64);
        due("the zero line at 8", book.countAt(0, 8), 16);
        due("the zero line at 4", book.countAt(0, 4), 0);
        for (int s : NOT_A_SYSTEM) {
            due("countAt(" + s + ", 0)", book.countAt(s, 0), -1);
        }
        due("no solution", contradictory(2, 3).countAt(0, 0), 0);
    }

    private static void promise15Values() {
        CongruenceBook book = new CongruenceBook(2, 4);
        due("the zero line", book.values(0), 1);
        line(book, 1, 0);
        due("x", book.values(0), 16);
        line(book, 4, 8);
        due("4x+8y", book.values(0), 4);
        put(book, 1, 6, 2, 0);
        line(book, 1, 0);
        due("x of 2x = 6", book.values(1), 2);
        line(book, 1, 4);
        due("x+4y of 2x = 6", book.values(1), 4);
        line(book, 6, 0);
        due("6x of 2x = 6", book.values(1), 1);
        for (int s : NOT_A_SYSTEM) {
            due("values(" + s + ")", book.values(s), -1);
        }
        due("no solution", contradictory(2, 4).values(0), 0);
        due("beside no solution", contradictory(2, 4).values(1), 1);
    }

    private static void promise16LeastValue() {
        CongruenceBook book = new CongruenceBook(2, 4);
        line(book, 3, 5);
        due("the empty system", book.leastValue(0), 0);
        put(book, 0, 14, 2, 0);
        line(book, 1, 0);
        due("x of 2x = 14", book.leastValue(0), 7);
        line(book, 15, 0);
        due("-x of 2x = 14", book.leastValue(0), 1);
        put(book, 0, 15, 1, 0);
        line(book, 15, 0);
        due("x = 15 gives -x", book.leastValue(0), 1);
        line(book, 1, 0);
        due("x = 15", book.leastValue(0), 15);
        line(book, 1, 8);
        due("x + 8y of x = 15", book.leastValue(0), 7);
        for (int s : NOT_A_SYSTEM) {
            due("leastValue(" + s + ")", book.leastValue(s), -1);
        }
        due("no solution", contradictory(2, 4).leastValue(0), -2);
        due("beside no solution", contradictory(2, 4).leastValue(1), 0);
    }

    private static void promise17Within() {
        CongruenceBook book = new CongruenceBook(2, 3);
        due("both empty", book.within(0), 1);
        put(book, 0, 1, 1, 1);
        due("x+y = 1 in all", book.within(0), 1);
        due("all in x+y = 1", book.within(1), 0);
        put(book, 1, 2, 2, 2);
        due("x+y = 1 in 2x+2y = 2", book.within(0), 1);
        due("2x+2y = 2 in x+y = 1", book.within(1), 0);
        put(book, 1, 3, 3, 3);
        due("the same set, first", book.within(0), 1);
        due("the same set, second", book.within(1), 1);
        put(book, 0, 0, 1, 0);
        put(book, 1, 1, 1, 0);
        due("apart, first", book.within(0), 0);
        due("apart, second", book.within(1), 0);
        for (int s : NOT_A_SYSTEM) {
            due("within(" + s + ")", book.within(s), -1);
        }
        for (int only = 0; only < 8; only++) {
            CongruenceBook one = new CongruenceBook(1, 3);
            put(one, 0, only, 1);
            put(one, 1, only + 1, 1);
            due("only " + only + " is not in the other", one.within(0), 0);
            due("only " + only + " is not in the other, from there", one.within(1), 0);
        }
        CongruenceBook none = contradictory(2, 3);
        due("none in all", none.within(0), 1);
        due("all in none", none.within(1), 0);
        none.copy(0);
        due("none in none", none.within(1), 1);
    }

    private static void promise18Common() {
        CongruenceBook book = new CongruenceBook(2, 3);
        due("both empty", book.common(), 64);
        put(book, 0, 1, 1, 1);
        due("x+y = 1", book.common(), 8);
        put(book, 1, 3, 1, 7);
        due("and x-y = 3", book.common(), 2);
        put(book, 1, 0, 4, 0);
        due("and 4x = 0", book.common(), 2);
        put(book, 1, 2, 1, 0);
        due("and x = 2", book.common(), 1);
        put(book, 0, 0, 0, 1);
        due("and y = 0", book.common(), 0);
        due("each alone has one, first", book.solutions(0), 1);
        due("each alone has one, second", book.solutions(1), 1);
        due("no solution", contradictory(2, 3).common(), 0);
    }

    private static void promise19WithoutUnknown() {
        CongruenceBook book = new CongruenceBook(3, 2);
        due("the empty system", book.withoutUnknown(0, 1), 16);
        put(book, 0, 2, 1, 2, 0);
        due("x+2y = 2 without x", book.withoutUnknown(0, 0), 16);
        due("x+2y = 2 without y", book.withoutUnknown(0, 1), 8);
        due("x+2y = 2 without z", book.withoutUnknown(0, 2), 4);
        due("withoutUnknown(0, 3)", book.withoutUnknown(0, 3), -2);
        due("withoutUnknown(0, -1)", book.withoutUnknown(0, -1), -2);
        due("withoutUnknown(0, MAX)", book.withoutUnknown(0, Integer.MAX_VALUE), -2);
        due("withoutUnknown(0, MIN)", book.withoutUnknown(0, Integer.MIN_VALUE), -2);
        for (int s : NOT_A_SYSTEM) {
            due("withoutUnknown(" + s + ", 0)", book.withoutUnknown(s, 0), -1);
            due("withoutUnknown(" + s + ", 3)", book.withoutUnknown(s, 3), -1);
        }
        put(book, 0, 1, 2, 0, 0);
        due("no solution", book.withoutUnknown(0, 0), 0);
        due("no solution, no unknown", book.withoutUnknown(0, 3), -2);
        CongruenceBook one = new CongruenceBook(1, 3);
        due("n = 1, the empty system", one.withoutUnknown(0, 0), 1);
        put(one, 0, 4, 4);
        due("n = 1, four solutions", one.withoutUnknown(0, 0), 1);
        put(one, 0, 2, 4);
        due("n = 1, no solution", one.withoutUnknown(0, 0), 0);
        due("n = 1, no unknown 1", one.withoutUnknown(0, 1), -2);
        CongruenceBook four = new CongruenceBook(4, 2);
        put(four, 1, 1, 0, 0, 1, 2);
        due("n = 4 without the last", four.withoutUnknown(1, 3), 32);
        due("n = 4 without the third", four.withoutUnknown(1, 2), 64);
    }

    private static void promise20SettledBits() {
        CongruenceBook book = new CongruenceBook(2, 4);
        due("the empty system", book.settledBits(0, 0), 0);
        put(book, 0, 8, 8, 0);
        due("8x = 8", book.settledBits(0, 0), 1);
        due("8x = 8, y", book.settledBits(0, 1), 0);
        put(book, 0, 4, 4, 0);
        due("4x = 4", book.settledBits(0, 0), 2);
        put(book, 0, 10, 2, 0);
        due("2x = 10", book.settledBits(0, 0), 3);
        put(book, 0, 13, 1, 0);
        due("x = 13, many solutions", book.settledBits(0, 0), 4);
        due("x = 13, y", book.settledBits(0, 1), 0);
        put(book, 0, 12, 0, 4);
        due("4y = 12", book.settledBits(0, 1), 2);
        put(book, 0, 3, 0, 1);
        due("just one, x", book.settledBits(0, 0), 4);
        due("just one, y", book.settledBits(0, 1), 4);
        due("settledBits(0, 2)", book.settledBits(0, 2), -2);
        due("settledBits(0, -1)", book.settledBits(0, -1), -2);
        due("settledBits(0, MAX)", book.settledBits(0, Integer.MAX_VALUE), -2);
        due("settledBits(0, MIN)", book.settledBits(0, Integer.MIN_VALUE), -2);
        for (int s : NOT_A_SYSTEM) {
            due("settledBits(" + s + ", 0)", book.settledBits(s, 0), -1);
            due("settledBits(" + s + ", 2)", book.settledBits(s, 2), -1);
        }
        CongruenceBook none = contradictory(2, 4);
        due("no solution", none.settledBits(0, 0), -3);
        due("no solution, no unknown", none.settledBits(0, 2), -2);
        due("no solution, no system", none.settledBits(2, 0), -1);
        due("beside no solution", none.settledBits(1, 0), 0);
        CongruenceBook sum = new CongruenceBook(3, 3);
        put(sum, 1, 0, 1, 7, 7);
        due("x = y + z, first and last are both even", sum.settledBits(1, 0), 0);
        CongruenceBook small = new CongruenceBook(1, 1);
        due("modulo 2, both values", small.settledBits(0, 0), 0);
        put(small, 0, 1, 1);
        due("modulo 2, one value", small.settledBits(0, 0), 1);
    }

    private static void promise21Redundant() {
        CongruenceBook book = new CongruenceBook(2, 3);
        due("redundant(0, 0) of the empty", book.redundant(0, 0), -2);
        put(book, 0, 1, 1, 1);
        due("the only one", book.redundant(0, 0), 0);
        put(book, 0, 0, 0, 0);
        due("0 = 0", book.redundant(0, 1), 1);
        due("beside 0 = 0", book.redundant(0, 0), 0);
        put(book, 0, 3, 3, 3);
        due("twice the same, first", book.redundant(0, 0), 1);
        due("twice the same, second", book.redundant(0, 2), 1);
        put(book, 0, 5, 1, 7);
        due("first of three", book.redundant(0, 0), 1);
        due("the new one", book.redundant(0, 3), 0);
        due("redundant(0, 4)", book.redundant(0, 4), -2);
        due("redundant(0, -1)", book.redundant(0, -1), -2);
        due("redundant(0, MAX)", book.redundant(0, Integer.MAX_VALUE), -2);
        due("redundant(0, MIN)", book.redundant(0, Integer.MIN_VALUE), -2);
        due("redundant(1, 0)", book.redundant(1, 0), -2);
        due("nothing is taken out", book.size(0), 4);
        for (int s : NOT_A_SYSTEM) {
            due("redundant(" + s + ", 0)", book.redundant(s, 0), -1);
            due("redundant(" + s + ", 9)", book.redundant(s, 9), -1);
        }
        redundantWithoutSolutions();
    }

    private static void redundantWithoutSolutions() {
        CongruenceBook book = contradictory(2, 3);
        due("0 = 1 alone", book.redundant(0, 0), 0);
        put(book, 0, 1, 1, 0);
        due("x = 1 beside 0 = 1", book.redundant(0, 1), 1);
        due("0 = 1 beside x = 1", book.redundant(0, 0), 0);
        put(book, 0, 2, 1, 0);
        due("0 = 1 beside x = 1 and x = 2", book.redundant(0, 0), 1);
        due("x = 1 beside 0 = 1 and x = 2", book.redundant(0, 1), 1);
        for (int only = 0; only < 8; only++) {
            CongruenceBook one = new CongruenceBook(1, 3);
            put(one, 1, only, 1);
            put(one, 1, only + 4, 1);
            due("without the second only " + only + " is left", one.redundant(1, 1), 0);
            due("without the first only the other of " + only + " is left", one.redundant(1, 0), 0);
        }
    }
}
