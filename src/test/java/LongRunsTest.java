import java.util.ArrayList;
import java.util.List;
import java.util.TreeSet;
import java.util.function.Consumer;

/**
 * Each promise over runs of many calls on one object, up to the 512 that the
 * document promises, compared with its definitions.
 */
public final class LongRunsTest {
    private static final int COUNTS = 4;
    private static final int MEMBER_SHARES = 4;

    private static final Due due = new Due();

    private enum Kind {
        ADD("Promise 2: add"),
        RETRACT("Promise 3: retract"),
        SIZE("Promise 4: size"),
        IMPLIED("Promise 5: implied"),
        PRIMES("Promise 6: primes"),
        PRIME("Promise 7: prime"),
        PRIME_WITHIN("Promise 8: primeWithin"),
        MODELS("Promise 9: models"),
        LEAST_MODEL("Promise 10: leastModel"),
        REDUNDANT("Promise 11: redundant");

        private final String promise;

        Kind(String promise) {
            this.promise = promise;
        }
    }

    public static void main(String[] args) {
        due.test("Promise 1: N is variables clamped into 2..5 (for all of 512 calls)",
            LongRunsTest::promise1KeepsItsVariables);
        due.test("Promise 1: The base is empty (beside objects in long use)",
            LongRunsTest::promise1NewBesideUsed);
        due.test("Promises 2 to 4: the base filled and emptied again and again",
            LongRunsTest::filledAndEmptied);
        for (Kind kind : Kind.values()) {
            due.test(kind.promise + " (in each of the 512 places)", () -> inEachPlace(kind));
            due.test(kind.promise + " (its edges in each place)", () -> edgesInEachPlace(kind));
            due.test(kind.promise + " (hundreds of calls of it alone)", () -> alone(kind));
        }
        due.end();
    }

    // Promise 1

    private static void promise1KeepsItsVariables() {
        int[] wishes = {Cases.LEAST, -1, 0, 1, 2, 3, 4, 5, 6, 7, 32, Cases.GREATEST};
        for (int wished : wishes) {
            int n = wished < 2 ? 2 : wished > 5 ? 5 : wished;
            int last = Cases.clauses(n) - 1;
            SideBySide both = new SideBySide(due, "in long use", wished, n);
            useUntilLeft(both, Cases.CAPACITY + COUNTS + 9, new Arguments(n, 1));
            takeAllOut(both);
            both.counts();
            both.leastModel(-1, -1);
            both.add(last + 1);
            both.add(last);
            both.retract(last + 1);
            both.implied(last);
            both.implied(last + 1);
            both.prime(0);
            both.primeWithin(last);
            both.primeWithin(last + 1);
        }
    }

    private static void promise1NewBesideUsed() {
        List<SideBySide> used = new ArrayList<>();
        List<Arguments> arguments = new ArrayList<>();
        for (int n = 2; n <= 5; n++) {
            for (int each = 0; each < 2; each++) {
                used.add(new SideBySide(due, "number " + each + " of its kind", n, n));
                arguments.add(new Arguments(n, each));
            }
        }
        for (int call = 1; call <= Cases.CALLS; call++) {
            for (int i = 0; i < used.size(); i++) {
                someCall(used.get(i), arguments.get(i));
            }
            if (call % 64 == 0) {
                newObjectsAreEmpty();
            }
        }
    }

    private static void newObjectsAreEmpty() {
        for (int n = 2; n <= 5; n++) {
            SideBySide fresh = new SideBySide(due, "made beside used ones", n, n);
            fresh.counts();
            for (int c = 0; c < Cases.clauses(n); c++) {
                fresh.retract(c);
            }
            fresh.counts();
        }
    }

    // Promises 2 to 4

    private static void filledAndEmptied() {
        for (int n = 2; n <= 5; n++) {
            int clauses = Cases.clauses(n);
            int most = n == 2 ? clauses : Cases.CAPACITY;
            SideBySide both = new SideBySide(due, "filled and emptied", n, n);
            for (int round = 0; both.callsLeft() >= 2 * most + 2 * COUNTS + 2; round++) {
                // 7 has no divisor in common with a power of 3: no clause comes twice.
                for (int i = 0; i < most; i++) {
                    both.add((round * 5 + i * 7) % clauses);
                }
                both.counts();
                both.add((round * 5 + most * 7) % clauses);
                both.add(round * 5 % clauses);
                takeAllOut(both);
                both.counts();
            }
        }
    }

    // Promises 2 to 11

    private static void inEachPlace(Kind kind) {
        for (int n = 2; n <= 5; n++) {
            for (int memberShare = 1; memberShare <= MEMBER_SHARES; memberShare++) {
                byTurns(kind, 0, n, memberShare);
                byTurns(kind, 1, n, memberShare);
            }
        }
    }

    /** The kind has either the odd places or the even ones; what comes between is mixed. */
    private static void byTurns(Kind kind, int parity, int n, int memberShare) {
        Arguments arguments = new Arguments(n, 10 * memberShare + parity);
        arguments.memberShare = memberShare;
        SideBySide both = new SideBySide(due, "by turns", n, n);
        while (both.callsLeft() > 0) {
            if (both.callsLeft() % 2 == parity) {
                call(both, kind, arguments);
            } else {
                someCall(both, arguments);
            }
        }
    }

    private static void alone(Kind kind) {
        for (int n = 2; n <= 5; n++) {
            for (int[] base : Cases.bases(n)) {
                SideBySide both = SideBySide.based(due, n, base);
                Arguments arguments = new Arguments(n, 2);
                while (both.callsLeft() > COUNTS) {
                    call(both, kind, arguments);
                }
                both.counts();
            }
        }
    }

    private static void edgesInEachPlace(Kind kind) {
        for (int n = 2; n <= 5; n++) {
            for (int[] base : Cases.bases(n)) {
                Definitions definitions = SideBySide.based(due, n, base).definitions();
                everyOtherCall(edgeCalls(kind, n, definitions), n, base);
            }
        }
    }

    /**
     * Every other call is an edge, and the one behind it brings the base back. Each
     * run starts one step later in that order than the one before it, so in the end
     * each edge has been in each place that comes after the first adds.
     */
    private static void everyOtherCall(List<Consumer<SideBySide>> edges, int n, int[] base) {
        for (int first = 0; first < 2 * edges.size(); first++) {
            SideBySide both = SideBySide.based(due, n, base);
            for (int step = first; both.callsLeft() > 0; step++) {
                if (step % 2 == 0) {
                    edges.get(step / 2 % edges.size()).accept(both);
                } else {
                    bringBack(both, base);
                }
            }
        }
    }

    /** Undoes the one call that may have changed the base. */
    private static void bringBack(SideBySide both, int[] base) {
        TreeSet<Integer> now = both.definitions().base();
        for (int c : base) {
            if (!now.remove(c)) {
                both.add(c);
                return;
            }
        }
        if (now.isEmpty()) {
            both.size();
        } else {
            both.retract(now.first());
        }
    }

    private static List<Consumer<SideBySide>> edgeCalls(Kind kind, int n, Definitions definitions) {
        List<Consumer<SideBySide>> calls = new ArrayList<>();
        switch (kind) {
            case ADD -> edges(n, definitions).forEach(c -> calls.add(b -> b.add(c)));
            case RETRACT -> edges(n, definitions).forEach(c -> calls.add(b -> b.retract(c)));
            case SIZE -> calls.add(SideBySide::size);
            case IMPLIED -> edges(n, definitions).forEach(c -> calls.add(b -> b.implied(c)));
            case PRIMES -> calls.add(SideBySide::primes);
            case PRIME -> edgesOfPrimes(definitions).forEach(k -> calls.add(b -> b.prime(k)));
            case PRIME_WITHIN -> edges(n, definitions).forEach(c -> calls.add(b -> b.primeWithin(c)));
            case MODELS -> calls.add(SideBySide::models);
            case LEAST_MODEL -> {
                for (int values : new int[] {Cases.LEAST, -1, 0, 1, Cases.GREATEST}) {
                    calls.add(b -> b.leastModel(0, values));
                    calls.add(b -> b.leastModel(1 << n, values));
                    calls.add(b -> b.leastModel(1, values));
                    calls.add(b -> b.leastModel(-1, values));
                }
            }
            case REDUNDANT -> calls.add(SideBySide::redundant);
            default -> throw new IllegalStateException("a kind without calls");
        }
        return calls;
    }

    /** Beside and at the edges of the clauses, and in the base and out of it. */
    private static TreeSet<Integer> edges(int n, Definitions definitions) {
        TreeSet<Integer> base = definitions.base();
        int clauses = Cases.clauses(n);
        TreeSet<Integer> edges = new TreeSet<>(
            List.of(Cases.LEAST, -1, 0, 4, clauses - 1, clauses, Cases.GREATEST));
        if (!base.isEmpty()) {
            edges.add(base.first());
            edges.add(base.last());
        }
        int notIn = 0;
        while (base.contains(notIn)) {
            notIn++;
        }
        edges.add(notIn);
        return edges;
    }

    private static TreeSet<Integer> edgesOfPrimes(Definitions definitions) {
        int primes = definitions.primes();
        return new TreeSet<>(
            List.of(Cases.LEAST, -1, 0, primes - 1, primes, primes + 1, Cases.GREATEST));
    }

    // Runs of calls

    private static void useUntilLeft(SideBySide both, int callsLeft, Arguments arguments) {
        while (both.callsLeft() > callsLeft) {
            someCall(both, arguments);
        }
    }

    private static void takeAllOut(SideBySide both) {
        for (int c : both.definitions().base().descendingSet()) {
            both.retract(c);
        }
    }

    private static void someCall(SideBySide both, Arguments arguments) {
        Kind[] kinds = Kind.values();
        call(both, kinds[arguments.below(kinds.length)], arguments);
    }

    private static void call(SideBySide both, Kind kind, Arguments arguments) {
        Definitions definitions = both.definitions();
        switch (kind) {
            case ADD -> both.add(arguments.number(definitions));
            case RETRACT -> both.retract(arguments.numberToRetract(definitions));
            case SIZE -> both.size();
            case IMPLIED -> both.implied(arguments.number(definitions));
            case PRIMES -> both.primes();
            case PRIME -> both.prime(arguments.place(definitions));
            case PRIME_WITHIN -> both.primeWithin(arguments.number(definitions));
            case MODELS -> both.models();
            case LEAST_MODEL -> both.leastModel(arguments.bits(), arguments.bits());
            case REDUNDANT -> both.redundant();
            default -> throw new IllegalStateException("a kind without a call");
        }
    }

    /** Chooses arguments by a fixed rule: the same ones each time the test is run. */
    private static final class Arguments {
        private final int n;
        private final int[] outside;
        private long seed;

        // Of four retracts, how many take a member: it settles how full the base stays.
        private int memberShare = 2;

        Arguments(int n, int run) {
            this.n = n;
            this.outside = Cases.outside(n);
            this.seed = 1000L * n + run;
        }

        private int bits() {
            seed = seed * 6364136223846793005L + 1442695040888963407L;
            return (int) (seed >>> 32);
        }

        private int below(int bound) {
            return (bits() >>> 1) % bound;
        }

        private int member(Definitions definitions) {
            TreeSet<Integer> base = definitions.base();
            if (base.isEmpty()) {
                return below(Cases.clauses(n));
            }
            return new ArrayList<>(base).get(below(base.size()));
        }

        private int number(Definitions definitions) {
            int kind = below(12);
            if (kind == 0) {
                return outside[below(outside.length)];
            }
            if (kind <= 2) {
                return member(definitions);
            }
            // Short clauses, so that bases without a model come up as well.
            return kind <= 5 ? below(9) : below(Cases.clauses(n));
        }

        private int numberToRetract(Definitions definitions) {
            return below(MEMBER_SHARES) < memberShare ? member(definitions) : number(definitions);
        }

        private int place(Definitions definitions) {
            int primes = definitions.primes();
            int kind = below(8);
            if (kind == 0) {
                return outside[below(outside.length)];
            }
            return kind == 1 ? primes : below(primes + 1) - (kind == 2 ? 1 : 0);
        }
    }
}
