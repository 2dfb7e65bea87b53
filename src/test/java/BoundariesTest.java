/**
 * One test or more for each sentence of the document that names a boundary case:
 * too small, too large, empty, full, a wrap-around, a refused call. The sentence
 * stands before each message. Answers are worked out by hand.
 */
public final class BoundariesTest {
    private static final int BAD = OrderedResolver.BAD;
    private static final int NONE = OrderedResolver.NONE;
    private static final int FULL = OrderedResolver.FULL;
    private static final int LEAST = Cases.LEAST;
    private static final int GREATEST = Cases.GREATEST;

    private static final Due due = new Due();

    public static void main(String[] args) {
        due.test("Terms: clause 0 is satisfied by none",
            BoundariesTest::termsNoneSatisfiesClause0);
        due.test("Terms: a set of up to 12 clauses",
            BoundariesTest::termsUpTo12Clauses);
        due.test("Terms: each in it once or not at all",
            BoundariesTest::termsOnceOrNotAtAll);
        due.test("Terms: every clause is within itself",
            BoundariesTest::termsEveryClauseIsWithinItself);
        due.test("Promise 1: N is variables clamped into 2..5",
            BoundariesTest::promise1Clamped);
        due.test("Promise 1: The base is empty",
            BoundariesTest::promise1EmptyBase);
        due.test("Promise 2: c outside 0 .. 3^N - 1: BAD",
            BoundariesTest::promise2OutsideIsBad);
        due.test("Promise 2: the clause is in it: 0",
            BoundariesTest::promise2AlreadyInIs0);
        due.test("Promise 2: 12 clauses are in it: FULL",
            BoundariesTest::promise2TwelveInIsFull);
        due.test("Promise 2: Tested in this order: BAD; 0; FULL",
            BoundariesTest::promise2TestsInTheirOrder);
        due.test("Promise 2: Else the clause is put in and 1 is answered",
            BoundariesTest::promise2ElsePutIn);
        due.test("Promise 3: c outside 0 .. 3^N - 1: BAD",
            BoundariesTest::promise3OutsideIsBad);
        due.test("Promise 3: Answers 1 if it was in it",
            BoundariesTest::promise3OneIfItWasIn);
        due.test("Promise 3: Answers 0 if it was not",
            BoundariesTest::promise3ZeroIfItWasNot);
        due.test("Promise 4: The number of clauses in the base (empty to full)",
            BoundariesTest::promise4EmptyToFullAndBack);
        due.test("Promise 4: The number of clauses in the base (after a refused call)",
            BoundariesTest::promise4AfterRefusedCalls);
        due.test("Promise 5: false for c outside 0 .. 3^N - 1",
            BoundariesTest::promise5OutsideIsFalse);
        due.test("Promise 6: The number of prime clauses (an empty base)",
            BoundariesTest::promise6EmptyBase);
        due.test("Promise 6: The number of prime clauses (a base with no model)",
            BoundariesTest::promise6NoModel);
        due.test("Promise 6: The number of prime clauses (a full base)",
            BoundariesTest::promise6FullBase);
        due.test("Promise 7: NONE for k outside 0 .. primes() - 1",
            BoundariesTest::promise7NoneOutside);
        due.test("Promise 8: NONE if there is none",
            BoundariesTest::promise8NoneWithin);
        due.test("Promise 8: BAD for c outside 0 .. 3^N - 1",
            BoundariesTest::promise8OutsideIsBad);
        due.test("Promise 9: The number of models (an empty base)",
            BoundariesTest::promise9EmptyBase);
        due.test("Promise 9: The number of models (a base with no model)",
            BoundariesTest::promise9NoModel);
        due.test("Promise 9: The number of models (one model; a full base)",
            BoundariesTest::promise9OneModelAndFullBase);
        due.test("Promise 10: bits N and above play no part",
            BoundariesTest::promise10BitsFromNUp);
        due.test("Promise 10: NONE if there is none",
            BoundariesTest::promise10NoneIfThereIsNone);
        due.test("Promise 11: each judged by itself",
            BoundariesTest::promise11EachByItself);
        due.test("Promise 11: with all others in the base, and those alone",
            BoundariesTest::promise11WithAllOthers);
        due.test("Promise 11: The number of clauses (an empty base, a full one)",
            BoundariesTest::promise11EmptyAndFullBase);
        due.end();
    }

    // Terms

    private static void termsNoneSatisfiesClause0() {
        for (int n = 2; n <= 5; n++) {
            OrderedResolver only0 = due.made(n, 0);
            due.is(Due.named(n, 0) + "models()", only0.models(), 0);
            for (int a = 0; a < 1 << n; a++) {
                due.is(Due.named(n, 0) + "leastModel(-1, " + a + ")", only0.leastModel(-1, a), NONE);
                int[] base = Cases.onlyModel(n, a);
                due.is(Due.named(n, base) + "implied(0)", due.made(n, base).implied(0), false);
            }
        }
    }

    private static void termsUpTo12Clauses() {
        for (int n = 3; n <= 5; n++) {
            OrderedResolver x = due.made(n, Cases.lastTwelve(n));
            due.is(n + " variables: size() after 12", x.size(), 12);
            due.is(n + " variables: add(0) as the 13th", x.add(0), FULL);
            due.is(n + " variables: size() after the 13th", x.size(), 12);
        }
        OrderedResolver nine = due.made(2, Cases.allNine());
        due.is("2 variables: size() with every clause", nine.size(), 9);
    }

    private static void termsOnceOrNotAtAll() {
        for (int n = 2; n <= 5; n++) {
            for (int c = 0; c < Cases.clauses(n); c++) {
                OrderedResolver x = due.made(n, c);
                String name = Due.named(n, c);
                due.is(name + "add again", x.add(c), 0);
                due.is(name + "size()", x.size(), 1);
                due.is(name + "redundant()", x.redundant(), 0);
                due.is(name + "retract", x.retract(c), 1);
                due.is(name + "retract again", x.retract(c), 0);
                due.is(name + "size() without it", x.size(), 0);
                due.is(name + "models() without it", x.models(), 1 << n);
            }
        }
    }

    private static void termsEveryClauseIsWithinItself() {
        for (int n = 2; n <= 5; n++) {
            for (int c = 0; c < Cases.clauses(n); c++) {
                OrderedResolver x = due.made(n, c);
                due.is(Due.named(n, c) + "primeWithin(" + c + ")", x.primeWithin(c), c);
                due.is(Due.named(n, c) + "primes()", x.primes(), 1);
            }
        }
    }

    // Promise 1

    private static void promise1Clamped() {
        // The odd ones far off would be in 2..5 if they lost their high bits.
        int[] tooSmall = {LEAST, LEAST + 1, LEAST + 4, -65532, -252, -5, -4, -3, -2, -1, 0, 1};
        for (int wished : tooSmall) {
            variablesAre(wished, 2);
        }
        for (int wished = 2; wished <= 5; wished++) {
            variablesAre(wished, wished);
        }
        int[] tooLarge = {6, 7, 8, 10, 31, 32, 35, 63, 64, 67, 259, 65539, GREATEST - 1, GREATEST};
        for (int wished : tooLarge) {
            variablesAre(wished, 5);
        }
    }

    private static void variablesAre(int wished, int n) {
        OrderedResolver x = new OrderedResolver(wished);
        String name = "new(" + wished + "): ";
        int last = Cases.clauses(n) - 1;
        due.is(name + "models()", x.models(), 1 << n);
        due.is(name + "leastModel(-1, -1)", x.leastModel(-1, -1), (1 << n) - 1);
        due.is(name + "primeWithin(last)", x.primeWithin(last), NONE);
        due.is(name + "primeWithin(last + 1)", x.primeWithin(last + 1), BAD);
        due.is(name + "add(last + 1)", x.add(last + 1), BAD);
        due.is(name + "add(last)", x.add(last), 1);
        due.is(name + "prime(0)", x.prime(0), last);
    }

    private static void promise1EmptyBase() {
        for (int wished : new int[] {LEAST, 1, 2, 3, 4, 5, 6, GREATEST}) {
            OrderedResolver x = new OrderedResolver(wished);
            String name = "new(" + wished + "): ";
            int n = wished < 2 ? 2 : wished > 5 ? 5 : wished;
            due.is(name + "size()", x.size(), 0);
            due.is(name + "primes()", x.primes(), 0);
            due.is(name + "models()", x.models(), 1 << n);
            due.is(name + "leastModel(0, 0)", x.leastModel(0, 0), 0);
            due.is(name + "redundant()", x.redundant(), 0);
            for (int c = 0; c < Cases.clauses(n); c++) {
                due.is(name + "implied(" + c + ")", x.implied(c), false);
                due.is(name + "retract(" + c + ")", x.retract(c), 0);
            }
        }
    }

    // Promise 2

    private static void promise2OutsideIsBad() {
        for (int n = 2; n <= 5; n++) {
            for (int[] base : Cases.bases(n)) {
                OrderedResolver x = due.made(n, base);
                for (int c : Cases.outside(n)) {
                    due.is(Due.named(n, base) + "add(" + c + ")", x.add(c), BAD);
                }
            }
            OrderedResolver edges = new OrderedResolver(n);
            int last = Cases.clauses(n) - 1;
            due.is(n + " variables: add(0)", edges.add(0), 1);
            due.is(n + " variables: add(" + last + ")", edges.add(last), 1);
        }
    }

    private static void promise2AlreadyInIs0() {
        for (int n = 2; n <= 5; n++) {
            for (int[] base : Cases.bases(n)) {
                OrderedResolver x = due.made(n, base);
                for (int c : base) {
                    due.is(Due.named(n, base) + "add(" + c + ")", x.add(c), 0);
                }
            }
        }
        // Implied is not the same as being in it.
        due.is("base [1]: add(4)", due.made(2, 1).add(4), 1);
    }

    private static void promise2TwelveInIsFull() {
        for (int n = 3; n <= 5; n++) {
            OrderedResolver x = due.made(n, Cases.lastTwelve(n));
            int leftOut = Cases.clauses(n) - 12;
            for (int c = 0; c < leftOut; c++) {
                due.is(n + " variables, last twelve: add(" + c + ")", x.add(c), FULL);
            }
        }
    }

    private static void promise2TestsInTheirOrder() {
        for (int n = 3; n <= 5; n++) {
            int first = Cases.clauses(n) - 12;
            OrderedResolver full = due.made(n, Cases.lastTwelve(n));
            due.is(n + " variables, full: add(LEAST)", full.add(LEAST), BAD);
            due.is(n + " variables, full: add(-1)", full.add(-1), BAD);
            due.is(n + " variables, full: add(3^N)", full.add(first + 12), BAD);
            due.is(n + " variables, full: add(GREATEST)", full.add(GREATEST), BAD);
            due.is(n + " variables, full: add(member)", full.add(first), 0);
            due.is(n + " variables, full: add(last member)", full.add(first + 11), 0);
            due.is(n + " variables, full: add(no member)", full.add(first - 1), FULL);
        }
    }

    private static void promise2ElsePutIn() {
        for (int n = 3; n <= 5; n++) {
            OrderedResolver x = due.made(n, Cases.lastTwelve(n));
            int last = Cases.clauses(n) - 1;
            due.is(n + " variables, full: add(1)", x.add(1), FULL);
            due.is(n + " variables, full: retract(last)", x.retract(last), 1);
            due.is(n + " variables, eleven: add(1)", x.add(1), 1);
            due.is(n + " variables, full again: implied(1)", x.implied(1), true);
            due.is(n + " variables, full again: add(last)", x.add(last), FULL);
            due.is(n + " variables, full again: retract(last)", x.retract(last), 0);
            due.is(n + " variables, full again: retract(1)", x.retract(1), 1);
        }
    }

    // Promise 3

    private static void promise3OutsideIsBad() {
        for (int n = 2; n <= 5; n++) {
            for (int[] base : Cases.bases(n)) {
                OrderedResolver x = due.made(n, base);
                for (int c : Cases.outside(n)) {
                    due.is(Due.named(n, base) + "retract(" + c + ")", x.retract(c), BAD);
                }
            }
            int last = Cases.clauses(n) - 1;
            OrderedResolver edges = due.made(n, 0, last);
            due.is(n + " variables: retract(0)", edges.retract(0), 1);
            due.is(n + " variables: retract(" + last + ")", edges.retract(last), 1);
        }
    }

    private static void promise3OneIfItWasIn() {
        for (int n = 2; n <= 5; n++) {
            for (int[] base : Cases.bases(n)) {
                OrderedResolver x = due.made(n, base);
                for (int c : base) {
                    due.is(Due.named(n, base) + "retract(" + c + ")", x.retract(c), 1);
                    due.is(Due.named(n, base) + "retract(" + c + ") again", x.retract(c), 0);
                }
                due.is(Due.named(n, base) + "size() with all out", x.size(), 0);
                due.is(Due.named(n, base) + "models() with all out", x.models(), 1 << n);
            }
        }
    }

    private static void promise3ZeroIfItWasNot() {
        for (int n = 2; n <= 5; n++) {
            for (int[] base : Cases.bases(n)) {
                OrderedResolver x = due.made(n, base);
                for (int c = 0; c < Cases.clauses(n); c++) {
                    if (!Cases.isIn(base, c)) {
                        due.is(Due.named(n, base) + "retract(" + c + ")", x.retract(c), 0);
                    }
                }
                due.is(Due.named(n, base) + "size()", x.size(), base.length);
            }
        }
    }

    // Promise 4

    private static void promise4EmptyToFullAndBack() {
        for (int n = 2; n <= 5; n++) {
            int[] base = n == 2 ? Cases.allNine() : Cases.lastTwelve(n);
            OrderedResolver x = new OrderedResolver(n);
            due.is(n + " variables: size() of an empty base", x.size(), 0);
            for (int i = 0; i < base.length; i++) {
                x.add(base[i]);
                due.is(n + " variables: size() after add number " + (i + 1), x.size(), i + 1);
            }
            for (int left = base.length - 1; left >= 0; left--) {
                x.retract(base[left]);
                due.is(n + " variables: size() with " + left + " left", x.size(), left);
            }
        }
    }

    private static void promise4AfterRefusedCalls() {
        for (int n = 2; n <= 5; n++) {
            for (int[] base : Cases.bases(n)) {
                OrderedResolver x = due.made(n, base);
                String name = Due.named(n, base) + "size() after ";
                for (int c : Cases.outside(n)) {
                    x.add(c);
                    due.is(name + "add(" + c + ")", x.size(), base.length);
                    x.retract(c);
                    due.is(name + "retract(" + c + ")", x.size(), base.length);
                }
                for (int c : base) {
                    x.add(c);
                    due.is(name + "add(" + c + ")", x.size(), base.length);
                }
            }
        }
        for (int n = 3; n <= 5; n++) {
            OrderedResolver full = due.made(n, Cases.lastTwelve(n));
            full.add(1);
            due.is(n + " variables, full: size() after add(1)", full.size(), 12);
            full.retract(1);
            due.is(n + " variables, full: size() after retract(1)", full.size(), 12);
        }
    }

    // Promise 5

    private static void promise5OutsideIsFalse() {
        for (int n = 2; n <= 5; n++) {
            for (int[] base : Cases.bases(n)) {
                OrderedResolver x = due.made(n, base);
                for (int c : Cases.outside(n)) {
                    due.is(Due.named(n, base) + "implied(" + c + ")", x.implied(c), false);
                }
            }
            // Without a model all that is inside is implied, to both edges.
            OrderedResolver noModel = due.made(n, 1, 2);
            for (int c = 0; c < Cases.clauses(n); c++) {
                due.is(Due.named(n, 1, 2) + "implied(" + c + ")", noModel.implied(c), true);
            }
        }
    }

    // Promise 6

    private static void promise6EmptyBase() {
        for (int n = 2; n <= 5; n++) {
            due.is(n + " variables: primes()", new OrderedResolver(n).primes(), 0);
            OrderedResolver emptied = due.made(n, 1, 2);
            emptied.retract(1);
            emptied.retract(2);
            due.is(n + " variables, emptied: primes()", emptied.primes(), 0);
        }
    }

    private static void promise6NoModel() {
        for (int n = 2; n <= 5; n++) {
            for (int[] base : Cases.basesWithoutModel(n)) {
                due.is(Due.named(n, base) + "primes()", due.made(n, base).primes(), 1);
            }
        }
    }

    private static void promise6FullBase() {
        due.is("twelve apart: primes()", due.made(5, Cases.twelveApart()).primes(), 12);
        for (int n = 3; n <= 5; n++) {
            OrderedResolver x = due.made(n, Cases.lastTwelve(n));
            due.is(n + " variables, last twelve: primes()", x.primes(), 2);
        }
    }

    // Promise 7

    private static void promise7NoneOutside() {
        for (int n = 2; n <= 5; n++) {
            primesAre(n, new int[] {});
            primesAre(n, new int[] {4}, 4);
            primesAre(n, new int[] {Cases.clauses(n) - 1}, Cases.clauses(n) - 1);
            for (int[] base : Cases.basesWithoutModel(n)) {
                primesAre(n, base, 0);
            }
        }
        primesAre(3, Cases.lastTwelve(3), 6, 18);
        primesAre(4, Cases.lastTwelve(4), 60, 72);
        primesAre(5, Cases.lastTwelve(5), 222, 234);
        primesAre(5, Cases.twelveApart(), Cases.twelveApart());
        primesAre(3, Cases.ring(3), 5, 7, 11, 15, 19, 21);
    }

    private static void primesAre(int n, int[] base, int... want) {
        OrderedResolver x = due.made(n, base);
        String name = Due.named(n, base);
        int end = want.length;
        for (int k = 0; k < end; k++) {
            due.is(name + "prime(" + k + ")", x.prime(k), want[k]);
        }
        int[] outside = {
            LEAST, LEAST + 1, -65536, -256, -end - 1, -3, -2, -1,
            end, end + 1, Cases.clauses(n), 243, 256, 65536, GREATEST - 1, GREATEST
        };
        for (int k : outside) {
            due.is(name + "prime(" + k + ")", x.prime(k), NONE);
        }
    }

    // Promise 8

    private static void promise8NoneWithin() {
        for (int n = 2; n <= 5; n++) {
            int last = Cases.clauses(n) - 1;
            OrderedResolver empty = new OrderedResolver(n);
            for (int c = 0; c <= last; c++) {
                due.is(Due.named(n) + "primeWithin(" + c + ")", empty.primeWithin(c), NONE);
            }
            for (int[] base : Cases.basesWithModels(n)) {
                due.is(Due.named(n, base) + "primeWithin(0)", due.made(n, base).primeWithin(0), NONE);
            }
            // Every clause but the last lacks or reverses one of its digits.
            OrderedResolver x = due.made(n, last);
            for (int c = 0; c < last; c++) {
                due.is(Due.named(n, last) + "primeWithin(" + c + ")", x.primeWithin(c), NONE);
            }
        }
        // Only a clause that is prime counts: 4 is implied, but 1 is within it.
        due.is("base [1]: primeWithin(4)", due.made(2, 1).primeWithin(4), 1);
        due.is("base [1]: primeWithin(3)", due.made(2, 1).primeWithin(3), NONE);
    }

    private static void promise8OutsideIsBad() {
        for (int n = 2; n <= 5; n++) {
            for (int[] base : Cases.bases(n)) {
                OrderedResolver x = due.made(n, base);
                for (int c : Cases.outside(n)) {
                    due.is(Due.named(n, base) + "primeWithin(" + c + ")", x.primeWithin(c), BAD);
                }
            }
            for (int[] base : Cases.basesWithoutModel(n)) {
                OrderedResolver x = due.made(n, base);
                int last = Cases.clauses(n) - 1;
                due.is(Due.named(n, base) + "primeWithin(0)", x.primeWithin(0), 0);
                due.is(Due.named(n, base) + "primeWithin(last)", x.primeWithin(last), 0);
            }
        }
    }

    // Promise 9

    private static void promise9EmptyBase() {
        for (int n = 2; n <= 5; n++) {
            due.is(n + " variables: models()", new OrderedResolver(n).models(), 1 << n);
            OrderedResolver emptied = due.made(n, 0);
            emptied.retract(0);
            due.is(n + " variables, emptied: models()", emptied.models(), 1 << n);
        }
    }

    private static void promise9NoModel() {
        for (int n = 2; n <= 5; n++) {
            for (int[] base : Cases.basesWithoutModel(n)) {
                due.is(Due.named(n, base) + "models()", due.made(n, base).models(), 0);
            }
        }
    }

    private static void promise9OneModelAndFullBase() {
        for (int n = 2; n <= 5; n++) {
            for (int a = 0; a < 1 << n; a++) {
                int[] base = Cases.onlyModel(n, a);
                due.is(Due.named(n, base) + "models()", due.made(n, base).models(), 1);
            }
        }
        due.is("last twelve of 3: models()", due.made(3, Cases.lastTwelve(3)).models(), 2);
        due.is("last twelve of 4: models()", due.made(4, Cases.lastTwelve(4)).models(), 10);
        due.is("last twelve of 5: models()", due.made(5, Cases.lastTwelve(5)).models(), 26);
        due.is("twelve apart: models()", due.made(5, Cases.twelveApart()).models(), 20);
    }

    // Promise 10

    private static void promise10BitsFromNUp() {
        for (int n = 2; n <= 5; n++) {
            for (int fixed = 0; fixed < 1 << n; fixed++) {
                for (int bit = n; bit < 32; bit++) {
                    highBitsPlayNoPart(n, fixed, 1 << bit);
                }
                highBitsPlayNoPart(n, fixed, -1 << n);
            }
            OrderedResolver empty = new OrderedResolver(n);
            due.is(n + " variables: leastModel(LEAST, GREATEST)", empty.leastModel(LEAST, GREATEST), 0);
            due.is(n + " variables: leastModel(GREATEST, LEAST)", empty.leastModel(GREATEST, LEAST), 0);
            due.is(n + " variables: leastModel(-1, LEAST)", empty.leastModel(-1, LEAST), 0);
            due.is(n + " variables: leastModel(-1, GREATEST)",
                empty.leastModel(-1, GREATEST), (1 << n) - 1);
        }
    }

    // Every assignment is a model, so the least one has just the fixed bits of values.
    private static void highBitsPlayNoPart(int n, int fixed, int high) {
        OrderedResolver empty = new OrderedResolver(n);
        for (int values = 0; values < 1 << n; values++) {
            int want = fixed & values;
            String name = n + " variables, high bits " + high + ": leastModel of " + fixed + ", " + values;
            due.is(name + ", high in fixed", empty.leastModel(fixed | high, values), want);
            due.is(name + ", high in values", empty.leastModel(fixed, values | high), want);
            due.is(name + ", high in both", empty.leastModel(fixed | high, values | high), want);
        }
    }

    private static void promise10NoneIfThereIsNone() {
        int[] odd = {LEAST, -1, 0, 1, 3, GREATEST};
        for (int n = 2; n <= 5; n++) {
            for (int[] base : Cases.basesWithoutModel(n)) {
                OrderedResolver x = due.made(n, base);
                for (int fixed : odd) {
                    for (int values : odd) {
                        due.is(Due.named(n, base) + "leastModel(" + fixed + ", " + values + ")",
                            x.leastModel(fixed, values), NONE);
                    }
                }
            }
            for (int a = 0; a < 1 << n; a++) {
                oneModelOrNone(n, a);
            }
        }
    }

    private static void oneModelOrNone(int n, int model) {
        int[] base = Cases.onlyModel(n, model);
        OrderedResolver x = due.made(n, base);
        String name = Due.named(n, base);
        due.is(name + "leastModel(0, ~model)", x.leastModel(0, ~model), model);
        due.is(name + "leastModel(-1, model)", x.leastModel(-1, model), model);
        for (int v = 0; v < n; v++) {
            int bit = 1 << v;
            due.is(name + "leastModel with " + v + " as it is", x.leastModel(bit, model), model);
            due.is(name + "leastModel with " + v + " reversed", x.leastModel(bit, model ^ bit), NONE);
            due.is(name + "leastModel(-1) with " + v + " reversed", x.leastModel(-1, model ^ bit), NONE);
        }
    }

    // Promise 11

    private static void promise11EachByItself() {
        for (int n = 2; n <= 5; n++) {
            // Each follows from the other three; taken out one by one, only two would.
            redundantIs(4, n, 1, 2, 3, 6);
            redundantIs(3, n, 3, 4, 5);
            redundantIs(3, n, 0, 1, 2);
            redundantIs(1, n, 0, 1);
            redundantIs(1, n, 1, 4);
        }
        redundantIs(6, 3, 5, 7, 11, 15, 19, 21);
    }

    private static void promise11WithAllOthers() {
        for (int n = 2; n <= 5; n++) {
            for (int c = 0; c < Cases.clauses(n); c++) {
                redundantIs(0, n, c);
            }
            redundantIs(0, n, 1, 2);
            redundantIs(0, n, 4, 5, 7, 8);
            redundantIs(0, n, Cases.ring(n));
        }
        // The last clause follows from all others, and from no fewer.
        redundantIs(1, 3, 5, 15, 11);
        redundantIs(1, 4, 5, 15, 45, 29);
        redundantIs(1, 5, 5, 15, 45, 135, 83);
        // Clauses that are implied but not in the base do not count.
        OrderedResolver x = due.made(3, 5, 15, 11);
        due.is("base [5, 15, 11]: redundant()", x.redundant(), 1);
        x.retract(11);
        due.is("base [5, 15]: redundant()", x.redundant(), 0);
    }

    private static void promise11EmptyAndFullBase() {
        for (int n = 2; n <= 5; n++) {
            redundantIs(0, n);
        }
        redundantIs(9, 2, Cases.allNine());
        for (int n = 3; n <= 5; n++) {
            redundantIs(12, n, Cases.lastTwelve(n));
        }
        redundantIs(0, 5, Cases.twelveApart());
    }

    // Asked twice: judging a clause takes nothing out of the base.
    private static void redundantIs(int want, int n, int... base) {
        OrderedResolver x = due.made(n, base);
        due.is(Due.named(n, base) + "redundant()", x.redundant(), want);
        due.is(Due.named(n, base) + "redundant() again", x.redundant(), want);
        due.is(Due.named(n, base) + "size()", x.size(), base.length);
    }
}
