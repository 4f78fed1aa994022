import java.util.ArrayList;
import java.util.HashSet;
import java.util.List;
import java.util.Set;

/**
 * Long runs of calls, each answer held against a second, slower reading of the
 * document that keeps its systems as lists and compares sets of solutions.
 */
public final class ModelTest {
    private static final Checks CHECKS = new Checks();
    private static final int RUNS = 300;
    private static final int CALLS = 512;
    private static final int[] ODD_NUMBERS = {
        Integer.MIN_VALUE, Integer.MIN_VALUE + 1, -17, -16, -1, 255, 256, 257, 511, 512, 513,
        Integer.MAX_VALUE - 1, Integer.MAX_VALUE
    };

    /** A row of numbers that is the same in every run of the test. */
    private long seed = 20261115L;

    private int n;
    private int bits;
    private int modulus;
    private int[] draft;
    private List<int[]> assignments;
    private List<List<int[]>> systems;

    public static void main(String[] args) {
        ModelTest test = new ModelTest();
        for (int run = 0; run < RUNS && CHECKS.wrong() < 20; run++) {
            test.run(run);
        }
        CHECKS.end();
    }

    private int upTo(int bound) {
        seed = seed * 6364136223846793005L + 1442695040888963407L;
        return (int) ((seed >>> 33) % bound);
    }

    private void run(int run) {
        int vars = upTo(8) - 1;
        int wishedBits = upTo(7) - 1;
        start(vars, wishedBits);
        CongruenceBook book = new CongruenceBook(vars, wishedBits);
        String made = "run " + run + ", new CongruenceBook(" + vars + ", " + wishedBits + "): ";
        for (int call = 0; call < CALLS; call++) {
            step(book, made + "call " + call + " ");
        }
    }

    private void start(int vars, int wishedBits) {
        n = Math.max(1, Math.min(4, vars));
        int most = n <= 2 ? 4 : n == 3 ? 3 : 2;
        bits = Math.min(most, Math.max(1, wishedBits));
        modulus = (int) Math.pow(2, bits);
        draft = new int[n];
        systems = List.of(new ArrayList<>(), new ArrayList<>());
        assignments = new ArrayList<>();
        for (int number = 0; number < Math.pow(modulus, n); number++) {
            int[] x = new int[n];
            int rest = number;
            for (int v = 0; v < n; v++) {
                x[v] = rest % modulus;
                rest /= modulus;
            }
            assignments.add(x);
        }
    }

    private int someNumber() {
        return upTo(8) == 0 ? ODD_NUMBERS[upTo(ODD_NUMBERS.length)] : upTo(600) - 40;
    }

    private int someSystem() {
        return upTo(20) == 0 ? someNumber() : upTo(2);
    }

    private int someUnknown() {
        return upTo(20) == 0 ? someNumber() : upTo(n + 1);
    }

    private int somePosition() {
        return upTo(20) == 0 ? someNumber() : upTo(11) - 1;
    }

    /** Even coefficients more often than not, so that systems keep several solutions. */
    private int someCoefficient() {
        int c = someNumber();
        return upTo(3) == 0 ? c : c << upTo(bits + 1);
    }

    private void step(CongruenceBook book, String at) {
        int s = someSystem();
        int v = someUnknown();
        int i = somePosition();
        int c = someNumber();
        switch (upTo(24)) {
            case 0, 1, 2, 3 -> {
                int k = someCoefficient();
                CHECKS.due(at + "draft(" + v + ", " + k + ")", book.draft(v, k), draft(v, k));
            }
            case 4 -> CHECKS.due(at + "drafted(" + v + ")", book.drafted(v), drafted(v));
            case 5, 6 -> {
                int rhs = likelyRightSide(c);
                CHECKS.due(at + "add(" + s + ", " + rhs + ")", book.add(s, rhs), add(s, rhs));
            }
            case 7 -> CHECKS.due(at + "drop(" + s + ", " + i + ")", book.drop(s, i), drop(s, i));
            case 8 -> {
                if (upTo(4) == 0) {
                    CHECKS.due(at + "copy(" + s + ")", book.copy(s), copy(s));
                }
            }
            case 9 -> CHECKS.due(at + "size(" + s + ")", book.size(s), isSystem(s) ? systems.get(s).size() : -1);
            case 10 -> CHECKS.due(at + "solutions(" + s + ")", book.solutions(s), isSystem(s) ? solved(s).size() : -1);
            case 11 -> {
                int k = upTo(2) == 0 ? c : i;
                CHECKS.due(at + "nth(" + s + ", " + k + ")", book.nth(s, k), nth(s, k));
            }
            case 12 -> CHECKS.due(at + "below(" + s + ", " + c + ")", book.below(s, c), below(s, c));
            case 13 -> {
                int k = likelyRightSide(c);
                CHECKS.due(at + "entails(" + s + ", " + k + ")", book.entails(s, k), entails(s, k));
            }
            case 14 -> CHECKS.due(at + "countAt(" + s + ", " + c + ")", book.countAt(s, c), countAt(s, c));
            case 15 -> CHECKS.due(at + "values(" + s + ")", book.values(s), isSystem(s) ? valueSet(s).size() : -1);
            case 16 -> CHECKS.due(at + "leastValue(" + s + ")", book.leastValue(s), leastValue(s));
            case 17 -> CHECKS.due(at + "within(" + s + ")", book.within(s), within(s));
            case 18 -> CHECKS.due(at + "common()", book.common(), common());
            case 19 -> CHECKS.due(at + "withoutUnknown(" + s + ", " + v + ")", book.withoutUnknown(s, v), withoutUnknown(s, v));
            case 20 -> CHECKS.due(at + "settledBits(" + s + ", " + v + ")", book.settledBits(s, v), settledBits(s, v));
            case 21 -> CHECKS.due(at + "redundant(" + s + ", " + i + ")", book.redundant(s, i), redundant(s, i));
            case 22 -> CHECKS.due(at + "unknowns()", book.unknowns(), n);
            default -> CHECKS.due(at + "modulus()", book.modulus(), modulus);
        }
    }

    /** Mostly the draft line's value at one fixed assignment, so that systems seldom contradict themselves. */
    private int likelyRightSide(int otherwise) {
        return upTo(12) == 0 ? otherwise : value(draft, assignments.get(assignments.size() * 5 / 7));
    }

    private static boolean isSystem(int s) {
        return s == 0 || s == 1;
    }

    private int modulo(long c) {
        return (int) Math.floorMod(c, (long) modulus);
    }

    private int value(int[] coefficients, int[] x) {
        long sum = 0;
        for (int v = 0; v < n; v++) {
            sum += (long) coefficients[v] * x[v];
        }
        return modulo(sum);
    }

    /** The numbers of the solutions, in rising order; the right side stands behind the coefficients. */
    private List<Integer> solved(List<int[]> system) {
        List<Integer> numbers = new ArrayList<>();
        for (int number = 0; number < assignments.size(); number++) {
            int[] x = assignments.get(number);
            if (system.stream().allMatch(row -> value(row, x) == row[n])) {
                numbers.add(number);
            }
        }
        return numbers;
    }

    private List<Integer> solved(int s) {
        return solved(systems.get(s));
    }

    private int draft(int v, int c) {
        if (v < 0 || v >= n) {
            return -1;
        }
        draft[v] = modulo(c);
        return draft[v];
    }

    private int drafted(int v) {
        return v < 0 || v >= n ? -1 : draft[v];
    }

    private int add(int s, int rhs) {
        if (!isSystem(s)) {
            return -1;
        }
        if (systems.get(s).size() == 10) {
            return -2;
        }
        int[] row = java.util.Arrays.copyOf(draft, n + 1);
        row[n] = modulo(rhs);
        systems.get(s).add(row);
        return systems.get(s).size();
    }

    private int drop(int s, int i) {
        if (!isSystem(s)) {
            return -1;
        }
        if (i < 0 || i >= systems.get(s).size()) {
            return -2;
        }
        systems.get(s).remove(i);
        return systems.get(s).size();
    }

    private int copy(int s) {
        if (!isSystem(s)) {
            return -1;
        }
        systems.get(1 - s).clear();
        systems.get(1 - s).addAll(systems.get(s));
        return systems.get(s).size();
    }

    private int nth(int s, int i) {
        if (!isSystem(s)) {
            return -1;
        }
        List<Integer> numbers = solved(s);
        return i < 0 || i >= numbers.size() ? -2 : numbers.get(i);
    }

    private int below(int s, int bound) {
        return isSystem(s) ? (int) solved(s).stream().filter(number -> number < bound).count() : -1;
    }

    private List<Integer> draftValues(int s) {
        List<Integer> values = new ArrayList<>();
        for (int number : solved(s)) {
            values.add(value(draft, assignments.get(number)));
        }
        return values;
    }

    private Set<Integer> valueSet(int s) {
        return new HashSet<>(draftValues(s));
    }

    private int entails(int s, int c) {
        if (!isSystem(s)) {
            return -1;
        }
        return Set.of(modulo(c)).containsAll(valueSet(s)) ? 1 : 0;
    }

    private int countAt(int s, int c) {
        return isSystem(s) ? java.util.Collections.frequency(draftValues(s), modulo(c)) : -1;
    }

    private int leastValue(int s) {
        if (!isSystem(s)) {
            return -1;
        }
        return draftValues(s).stream().min(Integer::compare).orElse(-2);
    }

    private int within(int s) {
        if (!isSystem(s)) {
            return -1;
        }
        return new HashSet<>(solved(1 - s)).containsAll(solved(s)) ? 1 : 0;
    }

    private int common() {
        Set<Integer> both = new HashSet<>(solved(0));
        both.retainAll(new HashSet<>(solved(1)));
        return both.size();
    }

    private int withoutUnknown(int s, int v) {
        if (!isSystem(s)) {
            return -1;
        }
        if (v < 0 || v >= n) {
            return -2;
        }
        Set<List<Integer>> rests = new HashSet<>();
        for (int number : solved(s)) {
            List<Integer> rest = new ArrayList<>();
            for (int w = 0; w < n; w++) {
                if (w != v) {
                    rest.add(assignments.get(number)[w]);
                }
            }
            rests.add(rest);
        }
        return rests.size();
    }

    private int settledBits(int s, int v) {
        if (!isSystem(s)) {
            return -1;
        }
        if (v < 0 || v >= n) {
            return -2;
        }
        List<Integer> numbers = solved(s);
        if (numbers.isEmpty()) {
            return -3;
        }
        int greatest = 0;
        for (int j = 0; j <= bits; j++) {
            Set<Integer> remainders = new HashSet<>();
            for (int number : numbers) {
                remainders.add(assignments.get(number)[v] % (1 << j));
            }
            if (remainders.size() == 1) {
                greatest = j;
            }
        }
        return greatest;
    }

    private int redundant(int s, int i) {
        if (!isSystem(s)) {
            return -1;
        }
        if (i < 0 || i >= systems.get(s).size()) {
            return -2;
        }
        List<int[]> others = new ArrayList<>(systems.get(s));
        others.remove(i);
        return solved(others).equals(solved(s)) ? 1 : 0;
    }
}
