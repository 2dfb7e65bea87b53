import java.util.TreeSet;

/**
 * Compares the program with the definitions of the document, written down here
 * once more as plainly as they stand: on every base over two variables, and on
 * long runs of calls over each number of variables.
 */
public final class DefinitionsTest {
    private static final int CALLS_OF_AN_OBJECT = 512;
    private static final int MOST_CALLS_AT_ONCE = 4;
    private static final int RUNS = 40;
    private static final int[] WEIGHT = {1, 3, 9, 27, 81, 243};

    private static final Due due = new Due();

    private final int n;
    private final int clauses;
    private final TreeSet<Integer> base = new TreeSet<>();
    private final OrderedResolver x;
    private final String name;
    private boolean[] impliedNow;
    private boolean[] primeNow;
    private int calls = 0;
    private long seed;

    private DefinitionsTest(int n, String name, long seed) {
        this.n = n;
        this.clauses = WEIGHT[n];
        this.x = new OrderedResolver(n);
        this.name = name;
        this.seed = seed;
        judge();
    }

    public static void main(String[] args) {
        for (int members = 0; members < 512; members++) {
            everyAnswer(members);
        }
        for (int n = 2; n <= 5; n++) {
            for (int run = 0; run < RUNS; run++) {
                DefinitionsTest t = new DefinitionsTest(n, "n " + n + " run " + run, 1000L * n + run);
                // Runs differ in how far the base fills before clauses leave it.
                int addShare = 1 + run % 4;
                while (t.calls + MOST_CALLS_AT_ONCE <= CALLS_OF_AN_OBJECT) {
                    t.someCall(addShare);
                }
            }
        }
        due.end();
    }

    private static void everyAnswer(int members) {
        DefinitionsTest t = new DefinitionsTest(2, "base set " + members, 0L);
        for (int c = 0; c < 9; c++) {
            if ((members >> c & 1) == 1) {
                t.add(c);
            }
        }
        t.counts();
        for (int i = -1; i <= 9; i++) {
            t.implied(i);
            t.prime(i);
            t.primeWithin(i);
        }
        for (int fixed = 0; fixed < 8; fixed++) {
            for (int values = 0; values < 8; values++) {
                t.leastModel(fixed, values);
            }
        }
        t.counts();
    }

    private void someCall(int addShare) {
        int kind = below(12 + addShare);
        if (kind >= 12) {
            add(someNumber());
        } else if (kind < 2) {
            retract(kind == 0 && !base.isEmpty() ? someMember() : someNumber());
        } else if (kind < 4) {
            implied(someNumber());
        } else if (kind < 6) {
            prime(below(clauses / 2) - 1);
        } else if (kind < 7) {
            prime(below(8));
        } else if (kind < 9) {
            primeWithin(someNumber());
        } else if (kind < 10) {
            leastModel(below(1 << n), below(1 << n));
        } else if (kind < 11) {
            leastModel(below(Integer.MAX_VALUE) * 2 + below(2), below(Integer.MAX_VALUE) * 2 + below(2));
        } else {
            counts();
        }
    }

    private int below(int bound) {
        seed = seed * 6364136223846793005L + 1442695040888963407L;
        return (int) ((seed >>> 33) % bound);
    }

    private int someNumber() {
        int kind = below(20);
        if (kind == 0) {
            return clauses + below(3);
        }
        if (kind == 1) {
            return -1 - below(3);
        }
        return below(clauses);
    }

    private int someMember() {
        int index = below(base.size());
        for (int c : base) {
            if (index == 0) {
                return c;
            }
            index--;
        }
        return 0;
    }

    // The definitions.

    private int digit(int c, int v) {
        return c / WEIGHT[v] % 3;
    }

    private boolean satisfies(int a, int c) {
        for (int v = 0; v < n; v++) {
            boolean isTrue = (a & (1 << v)) != 0;
            if (digit(c, v) == 1 && isTrue || digit(c, v) == 2 && !isTrue) {
                return true;
            }
        }
        return false;
    }

    private boolean isModel(Iterable<Integer> of, int a) {
        for (int c : of) {
            if (!satisfies(a, c)) {
                return false;
            }
        }
        return true;
    }

    private boolean isImplied(Iterable<Integer> by, int c) {
        for (int a = 0; a < 1 << n; a++) {
            if (isModel(by, a) && !satisfies(a, c)) {
                return false;
            }
        }
        return true;
    }

    private boolean isWithin(int d, int c) {
        for (int v = 0; v < n; v++) {
            if (digit(d, v) != 0 && digit(d, v) != digit(c, v)) {
                return false;
            }
        }
        return true;
    }

    private boolean isPrime(int c) {
        if (!impliedNow[c]) {
            return false;
        }
        for (int d = 0; d < clauses; d++) {
            if (d != c && impliedNow[d] && isWithin(d, c)) {
                return false;
            }
        }
        return true;
    }

    private void judge() {
        impliedNow = new boolean[clauses];
        primeNow = new boolean[clauses];
        for (int c = 0; c < clauses; c++) {
            impliedNow[c] = isImplied(base, c);
        }
        for (int c = 0; c < clauses; c++) {
            primeNow[c] = isPrime(c);
        }
    }

    private boolean isClause(int c) {
        return 0 <= c && c <= clauses - 1;
    }

    // The calls, each with the answer that the definitions give.

    private void check(String call, long got, long want) {
        calls++;
        due.is(name + " base " + base + ": " + call, got, want);
    }

    private void add(int c) {
        int want = 1;
        if (!isClause(c)) {
            want = -1;
        } else if (base.contains(c)) {
            want = 0;
        } else if (base.size() == 12) {
            want = -3;
        }
        check("add(" + c + ")", x.add(c), want);
        if (want == 1) {
            base.add(c);
            judge();
        }
    }

    private void retract(int c) {
        int want = !isClause(c) ? -1 : base.contains(c) ? 1 : 0;
        check("retract(" + c + ")", x.retract(c), want);
        if (want == 1) {
            base.remove(c);
            judge();
        }
    }

    private void implied(int c) {
        check("implied(" + c + ")", x.implied(c) ? 1 : 0, isClause(c) && impliedNow[c] ? 1 : 0);
    }

    private void prime(int k) {
        int want = -2;
        int before = 0;
        for (int c = 0; c < clauses; c++) {
            if (primeNow[c] && before++ == k) {
                want = c;
            }
        }
        check("prime(" + k + ")", x.prime(k), want);
    }

    private void primeWithin(int c) {
        int want = isClause(c) ? -2 : -1;
        for (int d = clauses - 1; want != -1 && d >= 0; d--) {
            if (primeNow[d] && isWithin(d, c)) {
                want = d;
            }
        }
        check("primeWithin(" + c + ")", x.primeWithin(c), want);
    }

    private void leastModel(int fixed, int values) {
        int want = -2;
        for (int a = (1 << n) - 1; a >= 0; a--) {
            boolean agrees = true;
            for (int v = 0; v < n; v++) {
                if ((fixed >> v & 1) == 1 && (values >> v & 1) != (a >> v & 1)) {
                    agrees = false;
                }
            }
            if (agrees && isModel(base, a)) {
                want = a;
            }
        }
        check("leastModel(" + fixed + ", " + values + ")", x.leastModel(fixed, values), want);
    }

    private void counts() {
        int primes = 0;
        for (boolean p : primeNow) {
            primes += p ? 1 : 0;
        }
        int models = 0;
        for (int a = 0; a < 1 << n; a++) {
            models += isModel(base, a) ? 1 : 0;
        }
        int redundant = 0;
        for (int c : base) {
            TreeSet<Integer> others = new TreeSet<>(base);
            others.remove(c);
            redundant += isImplied(others, c) ? 1 : 0;
        }
        check("size()", x.size(), base.size());
        check("primes()", x.primes(), primes);
        check("models()", x.models(), models);
        check("redundant()", x.redundant(), redundant);
    }
}
