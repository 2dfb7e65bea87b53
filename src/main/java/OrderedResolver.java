/**
 * Prime implicates of a set of clauses over 2 to 5 variables.
 *
 * A set of assignments is held as a long whose bit a stands for assignment a:
 * five variables have 32 assignments, and a long keeps all of them clear of the
 * sign bit.
 */
public final class OrderedResolver {
    public static final int BAD = -1;
    public static final int NONE = -2;
    public static final int FULL = -3;

    private static final int LEAST_VARIABLES = 2;
    private static final int MOST_VARIABLES = 5;
    private static final int MOST_CLAUSES = 243;
    private static final int BASE_CAPACITY = 12;

    private static final int WANTS_TRUE = 1;
    private static final int WANTS_FALSE = 2;

    private static final int NO_CLAUSE = -1;

    private final int variables;
    private final int clauses;
    private final int assignments;

    // Indexed by clause: the assignments that do not satisfy it. They depend on
    // the clause alone, so they are worked out once.
    private final long[] falsifiers = new long[MOST_CLAUSES];

    private final boolean[] inBase = new boolean[MOST_CLAUSES];
    private int baseSize = 0;

    public OrderedResolver(int variables) {
        this.variables = clampVariables(variables);
        this.clauses = power(3, this.variables);
        this.assignments = power(2, this.variables);
        fillFalsifiers();
    }

    public int add(int c) {
        if (!isClause(c)) {
            return BAD;
        }
        if (inBase[c]) {
            return 0;
        }
        if (baseSize >= BASE_CAPACITY) {
            return FULL;
        }
        inBase[c] = true;
        baseSize++;
        return 1;
    }

    public int retract(int c) {
        if (!isClause(c)) {
            return BAD;
        }
        if (!inBase[c]) {
            return 0;
        }
        inBase[c] = false;
        baseSize--;
        return 1;
    }

    public int size() {
        return baseSize;
    }

    public boolean implied(int c) {
        if (!isClause(c)) {
            return false;
        }
        long models = modelsWithout(NO_CLAUSE);
        return allSatisfy(models, c);
    }

    public int primes() {
        long models = modelsWithout(NO_CLAUSE);
        int count = 0;
        for (int c = 0; c < clauses; c++) {
            if (isPrime(models, c)) {
                count++;
            }
        }
        return count;
    }

    public int prime(int k) {
        if (k < 0) {
            return NONE;
        }
        long models = modelsWithout(NO_CLAUSE);
        int before = 0;
        for (int c = 0; c < clauses; c++) {
            if (isPrime(models, c)) {
                if (before == k) {
                    return c;
                }
                before++;
            }
        }
        return NONE;
    }

    public int primeWithin(int c) {
        if (!isClause(c)) {
            return BAD;
        }
        long models = modelsWithout(NO_CLAUSE);
        for (int d = 0; d < clauses; d++) {
            if (isWithin(d, c) && isPrime(models, d)) {
                return d;
            }
        }
        return NONE;
    }

    public int models() {
        long models = modelsWithout(NO_CLAUSE);
        int count = 0;
        for (int a = 0; a < assignments; a++) {
            if (contains(models, a)) {
                count++;
            }
        }
        return count;
    }

    public int leastModel(int fixed, int values) {
        long models = modelsWithout(NO_CLAUSE);
        int compared = fixed & (assignments - 1);
        for (int a = 0; a < assignments; a++) {
            boolean agrees = ((a ^ values) & compared) == 0;
            if (agrees && contains(models, a)) {
                return a;
            }
        }
        return NONE;
    }

    public int redundant() {
        int count = 0;
        for (int c = 0; c < clauses; c++) {
            if (inBase[c] && impliedByOthers(c)) {
                count++;
            }
        }
        return count;
    }

    private static int clampVariables(int wished) {
        if (wished < LEAST_VARIABLES) {
            return LEAST_VARIABLES;
        }
        if (wished > MOST_VARIABLES) {
            return MOST_VARIABLES;
        }
        return wished;
    }

    private static int power(int root, int exponent) {
        int product = 1;
        for (int i = 0; i < exponent; i++) {
            product *= root;
        }
        return product;
    }

    private void fillFalsifiers() {
        for (int c = 0; c < clauses; c++) {
            for (int a = 0; a < assignments; a++) {
                if (!satisfies(a, c)) {
                    falsifiers[c] |= 1L << a;
                }
            }
        }
    }

    private boolean satisfies(int assignment, int clause) {
        int digits = clause;
        int bits = assignment;
        for (int v = 0; v < variables; v++) {
            int wanted = (bits & 1) == 1 ? WANTS_TRUE : WANTS_FALSE;
            if (digits % 3 == wanted) {
                return true;
            }
            digits /= 3;
            bits >>= 1;
        }
        return false;
    }

    private boolean isClause(int c) {
        return c >= 0 && c < clauses;
    }

    private static boolean contains(long set, int assignment) {
        return (set >> assignment & 1L) == 1L;
    }

    private long modelsWithout(int leftOut) {
        long models = (1L << assignments) - 1L;
        for (int c = 0; c < clauses; c++) {
            if (inBase[c] && c != leftOut) {
                models &= ~falsifiers[c];
            }
        }
        return models;
    }

    private boolean allSatisfy(long set, int clause) {
        return (set & falsifiers[clause]) == 0L;
    }

    private boolean impliedByOthers(int clause) {
        long models = modelsWithout(clause);
        return allSatisfy(models, clause);
    }

    private boolean isWithin(int inner, int outer) {
        int innerDigits = inner;
        int outerDigits = outer;
        for (int v = 0; v < variables; v++) {
            int digit = innerDigits % 3;
            if (digit != 0 && digit != outerDigits % 3) {
                return false;
            }
            innerDigits /= 3;
            outerDigits /= 3;
        }
        return true;
    }

    // Taking out one variable at a time is enough: whatever satisfies a clause
    // satisfies every clause it is within, so if any smaller clause is implied,
    // one that lacks a single variable is implied too.
    private boolean isPrime(long models, int clause) {
        if (!allSatisfy(models, clause)) {
            return false;
        }
        int digits = clause;
        int weight = 1;
        for (int v = 0; v < variables; v++) {
            int digit = digits % 3;
            if (digit != 0 && allSatisfy(models, clause - digit * weight)) {
                return false;
            }
            digits /= 3;
            weight *= 3;
        }
        return true;
    }
}
