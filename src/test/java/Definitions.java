import java.util.TreeSet;

/**
 * A base, and the answer that is due to each call on it: the terms and promises
 * of the document, written down once more as plainly as they stand there.
 */
final class Definitions {
    private final int n;
    private final int clauses;
    private final TreeSet<Integer> base = new TreeSet<>();

    // What is implied and prime is judged anew when it is first asked after a change.
    private boolean judged = false;
    private boolean[] impliedNow;
    private boolean[] primeNow;

    Definitions(int n) {
        this.n = n;
        this.clauses = Cases.clauses(n);
    }

    /** The clauses of the base in ascending order; a copy. */
    TreeSet<Integer> base() {
        return new TreeSet<>(base);
    }

    // The terms

    private static int digit(int c, int v) {
        return c / Cases.clauses(v) % 3;
    }

    private boolean isClause(int c) {
        return 0 <= c && c <= clauses - 1;
    }

    private boolean satisfies(int a, int c) {
        for (int v = 0; v < n; v++) {
            boolean isTrue = (a & (1 << v)) != 0;
            if (digit(c, v) == 1 && isTrue || digit(c, v) == 2 && !isTrue) {
                return true;
            }
        }
        return false;
    }

    private boolean isModel(Iterable<Integer> of, int a) {
        for (int c : of) {
            if (!satisfies(a, c)) {
                return false;
            }
        }
        return true;
    }

    private boolean isWithin(int d, int c) {
        for (int v = 0; v < n; v++) {
            if (digit(d, v) != 0 && digit(d, v) != digit(c, v)) {
                return false;
            }
        }
        return true;
    }

    private boolean isImplied(Iterable<Integer> by, int c) {
        for (int a = 0; a < 1 << n; a++) {
            if (!satisfies(a, c) && isModel(by, a)) {
                return false;
            }
        }
        return true;
    }

    private boolean isPrime(int c) {
        if (!impliedNow[c]) {
            return false;
        }
        for (int d = 0; d < clauses; d++) {
            if (d != c && impliedNow[d] && isWithin(d, c)) {
                return false;
            }
        }
        return true;
    }

    private void judge() {
        if (judged) {
            return;
        }
        impliedNow = new boolean[clauses];
        primeNow = new boolean[clauses];
        for (int c = 0; c < clauses; c++) {
            impliedNow[c] = isImplied(base, c);
        }
        for (int c = 0; c < clauses; c++) {
            primeNow[c] = isPrime(c);
        }
        judged = true;
    }

    // The promises

    int add(int c) {
        if (!isClause(c)) {
            return -1;
        }
        if (base.contains(c)) {
            return 0;
        }
        if (base.size() == Cases.CAPACITY) {
            return -3;
        }
        base.add(c);
        judged = false;
        return 1;
    }

    int retract(int c) {
        if (!isClause(c)) {
            return -1;
        }
        if (!base.remove(c)) {
            return 0;
        }
        judged = false;
        return 1;
    }

    int size() {
        return base.size();
    }

    boolean implied(int c) {
        judge();
        return isClause(c) && impliedNow[c];
    }

    int primes() {
        judge();
        int count = 0;
        for (boolean isPrime : primeNow) {
            count += isPrime ? 1 : 0;
        }
        return count;
    }

    int prime(int k) {
        judge();
        int before = 0;
        for (int c = 0; c < clauses; c++) {
            if (primeNow[c] && before++ == k) {
                return c;
            }
        }
        return -2;
    }

    int primeWithin(int c) {
        if (!isClause(c)) {
            return -1;
        }
        judge();
        for (int d = 0; d < clauses; d++) {
            if (primeNow[d] && isWithin(d, c)) {
                return d;
            }
        }
        return -2;
    }

    int models() {
        int count = 0;
        for (int a = 0; a < 1 << n; a++) {
            count += isModel(base, a) ? 1 : 0;
        }
        return count;
    }

    int leastModel(int fixed, int values) {
        for (int a = 0; a < 1 << n; a++) {
            if (agrees(a, fixed, values) && isModel(base, a)) {
                return a;
            }
        }
        return -2;
    }

    private boolean agrees(int a, int fixed, int values) {
        for (int v = 0; v < n; v++) {
            if ((fixed >> v & 1) == 1 && (values >> v & 1) != (a >> v & 1)) {
                return false;
            }
        }
        return true;
    }

    int redundant() {
        int count = 0;
        for (int c : base) {
            TreeSet<Integer> others = base();
            others.remove(c);
            count += isImplied(others, c) ? 1 : 0;
        }
        return count;
    }
}
