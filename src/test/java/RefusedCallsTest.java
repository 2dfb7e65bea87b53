import java.util.ArrayList;
import java.util.List;
import java.util.function.ToLongFunction;

/**
 * A refused call leaves every later answer as it was: after each, by itself, an
 * object is asked all there is to ask, and answers as its twin does, which was
 * made alike and refused nothing.
 */
public final class RefusedCallsTest {
    private static final int BAD = OrderedResolver.BAD;
    private static final int NONE = OrderedResolver.NONE;
    private static final int FULL = OrderedResolver.FULL;
    private static final int MOST_LATER_CALLS = Cases.CALLS - Cases.CAPACITY - 1;

    private static final Due due = new Due();

    private record Call(String name, ToLongFunction<OrderedResolver> answer) {
    }

    private record Refused(Call call, long want) {
    }

    public static void main(String[] args) {
        due.test("a refused call leaves every later answer as it was",
            RefusedCallsTest::everyBase);
        due.end();
    }

    private static void everyBase() {
        for (int n = 2; n <= 5; n++) {
            List<List<Call>> later = later(n);
            for (int[] base : Cases.bases(n)) {
                List<Refused> refused = refused(n, base);
                for (List<Call> calls : later) {
                    allAsItWas(n, base, refused, calls);
                }
            }
        }
    }

    private static void allAsItWas(int n, int[] base, List<Refused> refused, List<Call> later) {
        long[] twin = answers(due.made(n, base), later);
        for (Refused r : refused) {
            OrderedResolver x = due.made(n, base);
            String name = Due.named(n, base) + r.call.name;
            due.is(name, r.call.answer.applyAsLong(x), r.want);
            long[] got = answers(x, later);
            for (int i = 0; i < got.length; i++) {
                due.is(name + ", then " + later.get(i).name, got[i], twin[i]);
            }
        }
    }

    private static long[] answers(OrderedResolver x, List<Call> calls) {
        if (calls.size() > MOST_LATER_CALLS) {
            throw new IllegalStateException("more calls than an object is promised for");
        }
        long[] got = new long[calls.size()];
        for (int i = 0; i < got.length; i++) {
            got[i] = calls.get(i).answer.applyAsLong(x);
        }
        return got;
    }

    // The calls

    private static Call add(int c) {
        return new Call("add(" + c + ")", x -> x.add(c));
    }

    private static Call retract(int c) {
        return new Call("retract(" + c + ")", x -> x.retract(c));
    }

    private static Call implied(int c) {
        return new Call("implied(" + c + ")", x -> x.implied(c) ? 1 : 0);
    }

    private static Call prime(int k) {
        return new Call("prime(" + k + ")", x -> x.prime(k));
    }

    private static Call primeWithin(int c) {
        return new Call("primeWithin(" + c + ")", x -> x.primeWithin(c));
    }

    private static Call leastModel(int fixed, int values) {
        return new Call("leastModel(" + fixed + ", " + values + ")", x -> x.leastModel(fixed, values));
    }

    private static List<Refused> refused(int n, int[] base) {
        List<Refused> refused = new ArrayList<>();
        for (int c : Cases.outside(n)) {
            refused.add(new Refused(add(c), BAD));
            refused.add(new Refused(retract(c), BAD));
            refused.add(new Refused(implied(c), 0));
            refused.add(new Refused(primeWithin(c), BAD));
        }
        for (int c : base) {
            refused.add(new Refused(add(c), 0));
        }
        for (int c : someNotIn(n, base)) {
            refused.add(new Refused(retract(c), 0));
            if (base.length == Cases.CAPACITY) {
                refused.add(new Refused(add(c), FULL));
            }
        }
        int primes = due.made(n, base).primes();
        for (int k : new int[] {Cases.LEAST, -1, primes, Cases.clauses(n), Cases.GREATEST}) {
            refused.add(new Refused(prime(k), NONE));
        }
        if (due.made(n, base).models() == 0) {
            refused.add(new Refused(leastModel(0, 0), NONE));
            refused.add(new Refused(leastModel(Cases.LEAST, Cases.GREATEST), NONE));
        } else {
            refused.add(new Refused(primeWithin(0), NONE));
        }
        return refused;
    }

    // The first and the last that are not in it, and one beside a member at each side.
    private static List<Integer> someNotIn(int n, int[] base) {
        List<Integer> notIn = new ArrayList<>();
        for (int c = 0; c < Cases.clauses(n); c++) {
            if (!Cases.isIn(base, c)) {
                notIn.add(c);
            }
        }
        List<Integer> some = new ArrayList<>();
        for (int i = 0; i < notIn.size(); i++) {
            int c = notIn.get(i);
            boolean edge = i == 0 || i == notIn.size() - 1;
            if (edge || Cases.isIn(base, c - 1) || Cases.isIn(base, c + 1)) {
                some.add(c);
            }
        }
        return some;
    }

    /** All there is to ask of an object, in parts that one object may be asked. */
    private static List<List<Call>> later(int n) {
        List<List<Call>> parts = new ArrayList<>();
        parts.add(counts());
        parts.add(impliedAndPrimes(n));
        parts.add(primesWithin(n));
        parts.addAll(leastModels(n));
        parts.add(retractAll(n));
        parts.add(addAll(n));
        return parts;
    }

    private static List<Call> counts() {
        return List.of(
            new Call("size()", OrderedResolver::size),
            new Call("primes()", OrderedResolver::primes),
            new Call("models()", OrderedResolver::models),
            new Call("redundant()", OrderedResolver::redundant));
    }

    private static List<Call> impliedAndPrimes(int n) {
        List<Call> calls = new ArrayList<>();
        for (int i = -1; i <= Cases.clauses(n); i++) {
            calls.add(implied(i));
            calls.add(prime(i));
        }
        return calls;
    }

    private static List<Call> primesWithin(int n) {
        List<Call> calls = new ArrayList<>();
        for (int c = -1; c <= Cases.clauses(n); c++) {
            calls.add(primeWithin(c));
        }
        return calls;
    }

    private static List<List<Call>> leastModels(int n) {
        List<List<Call>> parts = new ArrayList<>();
        int eachPart = 8;
        for (int first = 0; first < 1 << n; first += eachPart) {
            List<Call> calls = new ArrayList<>();
            for (int fixed = first; fixed < first + eachPart; fixed++) {
                for (int values = 0; values < 1 << n; values++) {
                    calls.add(leastModel(fixed, values));
                }
            }
            parts.add(calls);
        }
        return parts;
    }

    // Tells which clauses are in the base, and that they can be taken out.
    private static List<Call> retractAll(int n) {
        List<Call> calls = new ArrayList<>();
        for (int c = -1; c <= Cases.clauses(n); c++) {
            calls.add(retract(c));
        }
        calls.addAll(counts());
        return calls;
    }

    // Tells how much room is left in the base.
    private static List<Call> addAll(int n) {
        List<Call> calls = new ArrayList<>();
        for (int c = -1; c <= Cases.clauses(n); c++) {
            calls.add(add(c));
        }
        calls.addAll(counts());
        return calls;
    }
}
