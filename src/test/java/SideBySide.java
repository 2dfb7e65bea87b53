import java.util.Arrays;

/**
 * An object and the definitions of the document side by side: each call is made
 * on both, and the two answers are compared.
 */
final class SideBySide {
    private final Due due;
    private final OrderedResolver x;
    private final Definitions definitions;
    private final String name;
    private int calls = 0;

    /** The object is made with the wished variables, of which n should come. */
    SideBySide(Due due, String name, int wished, int n) {
        this.due = due;
        this.x = new OrderedResolver(wished);
        this.definitions = new Definitions(n);
        this.name = "new(" + wished + "), " + name;
    }

    /** A new object of n variables with these clauses in its base. */
    static SideBySide based(Due due, int n, int... base) {
        SideBySide both = new SideBySide(due, "base at first " + Arrays.toString(base), n, n);
        for (int c : base) {
            both.add(c);
        }
        return both;
    }

    int callsLeft() {
        return Cases.CALLS - calls;
    }

    Definitions definitions() {
        return definitions;
    }

    void add(int c) {
        String call = named("add(" + c + ")");
        due.is(call, x.add(c), definitions.add(c));
    }

    void retract(int c) {
        String call = named("retract(" + c + ")");
        due.is(call, x.retract(c), definitions.retract(c));
    }

    void size() {
        String call = named("size()");
        due.is(call, x.size(), definitions.size());
    }

    void implied(int c) {
        String call = named("implied(" + c + ")");
        due.is(call, x.implied(c), definitions.implied(c));
    }

    void primes() {
        String call = named("primes()");
        due.is(call, x.primes(), definitions.primes());
    }

    void prime(int k) {
        String call = named("prime(" + k + ")");
        due.is(call, x.prime(k), definitions.prime(k));
    }

    void primeWithin(int c) {
        String call = named("primeWithin(" + c + ")");
        due.is(call, x.primeWithin(c), definitions.primeWithin(c));
    }

    void models() {
        String call = named("models()");
        due.is(call, x.models(), definitions.models());
    }

    void leastModel(int fixed, int values) {
        String call = named("leastModel(" + fixed + ", " + values + ")");
        due.is(call, x.leastModel(fixed, values), definitions.leastModel(fixed, values));
    }

    void redundant() {
        String call = named("redundant()");
        due.is(call, x.redundant(), definitions.redundant());
    }

    void counts() {
        size();
        primes();
        models();
        redundant();
    }

    // Made before the call, so that it tells the base as the call found it.
    private String named(String call) {
        if (callsLeft() == 0) {
            throw new IllegalStateException("more calls than an object is promised for");
        }
        calls++;
        return name + ", call " + calls + ", base " + definitions.base() + ": " + call;
    }
}
