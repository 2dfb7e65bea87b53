/**
 * One method for each promise, with answers worked out by hand from the document.
 *
 * Clauses over variables 0, 1, 2 weigh 1, 3, 9 if they want true and 2, 6, 18 if
 * they want false: 5 = 2 + 3 says "not 0, or 1", that is, 0 leads to 1.
 */
public final class PromisesTest {
    private static final int BAD = OrderedResolver.BAD;
    private static final int NONE = OrderedResolver.NONE;
    private static final int FULL = OrderedResolver.FULL;

    private static final Due due = new Due();

    public static void main(String[] args) {
        constants();
        promise1NewObject();
        promise1ObjectsAreApart();
        promise2Add();
        promise2AddToFullBase();
        promise3Retract();
        promise4Size();
        promise5Implied();
        promise5ImpliedByNoModel();
        promises6And7Primes();
        promise7OutsideTheCount();
        promise8PrimeWithin();
        promise9Models();
        promise10LeastModel();
        promise10BitsThatPlayNoPart();
        promise11Redundant();
        questionsChangeNothing();
        due.end();
    }

    private static void constants() {
        due.is("BAD", BAD, -1);
        due.is("NONE", NONE, -2);
        due.is("FULL", FULL, -3);
    }

    private static void promise1NewObject() {
        int[] wished = {Cases.LEAST, -5, -1, 0, 1, 2, 3, 4, 5, 6, 7, 32, Cases.GREATEST};
        int[] held = {2, 2, 2, 2, 2, 2, 3, 4, 5, 5, 5, 5, 5};
        for (int i = 0; i < wished.length; i++) {
            OrderedResolver x = new OrderedResolver(wished[i]);
            String name = "P1 new(" + wished[i] + ").";
            int count = Cases.clauses(held[i]);
            due.is(name + "size()", x.size(), 0);
            due.is(name + "models()", x.models(), 1 << held[i]);
            due.is(name + "primes()", x.primes(), 0);
            due.is(name + "redundant()", x.redundant(), 0);
            due.is(name + "leastModel(-1, -1)", x.leastModel(-1, -1), (1 << held[i]) - 1);
            for (int c = 0; c < count; c++) {
                due.is(name + "retract(" + c + ")", x.retract(c), 0);
            }
            due.is(name + "add(" + count + ")", x.add(count), BAD);
            due.is(name + "add(" + (count - 1) + ")", x.add(count - 1), 1);
        }
    }

    private static void promise1ObjectsAreApart() {
        OrderedResolver first = due.made(3, 1, 2);
        OrderedResolver second = new OrderedResolver(3);
        due.is("P1 second.size()", second.size(), 0);
        due.is("P1 second.models()", second.models(), 8);
        second.add(13);
        due.is("P1 first.size()", first.size(), 2);
        due.is("P1 first.retract(13)", first.retract(13), 0);
    }

    private static void promise2Add() {
        for (int n = 2; n <= 5; n++) {
            OrderedResolver x = new OrderedResolver(n);
            for (int c : Cases.outside(n)) {
                due.is("P2 add(" + c + ") with " + n, x.add(c), BAD);
            }
            due.is("P2 size()", x.size(), 0);
            due.is("P2 models()", x.models(), 1 << n);
            int last = Cases.clauses(n) - 1;
            due.is("P2 add(last)", x.add(last), 1);
            due.is("P2 add(last) again", x.add(last), 0);
            due.is("P2 models()", x.models(), (1 << n) - 1);
            due.is("P2 add(0)", x.add(0), 1);
            due.is("P2 add(0) again", x.add(0), 0);
            due.is("P2 size()", x.size(), 2);
            due.is("P2 models()", x.models(), 0);
        }
        OrderedResolver implied = due.made(3, 1);
        due.is("P2 add of an implied clause", implied.add(4), 1);
        due.is("P2 size()", implied.size(), 2);
    }

    private static void promise2AddToFullBase() {
        for (int n = 3; n <= 5; n++) {
            OrderedResolver x = new OrderedResolver(n);
            int last = Cases.clauses(n) - 1;
            for (int i = 0; i < 12; i++) {
                due.is("P2 add number " + i, x.add(last - i), 1);
                due.is("P2 size()", x.size(), i + 1);
            }
            int models = x.models();
            due.is("P2 full: add(0)", x.add(0), FULL);
            due.is("P2 full: add(last - 12)", x.add(last - 12), FULL);
            due.is("P2 full: add(last)", x.add(last), 0);
            due.is("P2 full: add(last - 11)", x.add(last - 11), 0);
            due.is("P2 full: add(-1)", x.add(-1), BAD);
            due.is("P2 full: add(last + 1)", x.add(last + 1), BAD);
            due.is("P2 full: size()", x.size(), 12);
            due.is("P2 full: models()", x.models(), models);
            due.is("P2 full: retract(0)", x.retract(0), 0);
            due.is("P2 full: retract(last - 5)", x.retract(last - 5), 1);
            due.is("P2 room again: add(0)", x.add(0), 1);
            due.is("P2 full again: add(last - 5)", x.add(last - 5), FULL);
        }
        OrderedResolver all = due.made(2, 0, 1, 2, 3, 4, 5, 6, 7, 8);
        due.is("P2 every clause of two variables", all.size(), 9);
    }

    private static void promise3Retract() {
        for (int n = 2; n <= 5; n++) {
            OrderedResolver x = due.made(n, 0, 4, Cases.clauses(n) - 1);
            for (int c : Cases.outside(n)) {
                due.is("P3 retract(" + c + ") with " + n, x.retract(c), BAD);
            }
            due.is("P3 size()", x.size(), 3);
            due.is("P3 retract(5)", x.retract(5), 0);
            due.is("P3 retract(0)", x.retract(0), 1);
            due.is("P3 retract(0) again", x.retract(0), 0);
            due.is("P3 retract(last)", x.retract(Cases.clauses(n) - 1), 1);
            due.is("P3 size()", x.size(), 1);
            due.is("P3 models()", x.models(), 3 << (n - 2));
            due.is("P3 add(4)", x.add(4), 0);
            due.is("P3 retract(4)", x.retract(4), 1);
            due.is("P3 size()", x.size(), 0);
            due.is("P3 models()", x.models(), 1 << n);
        }
        OrderedResolver twice = due.made(2, 4);
        twice.add(4);
        due.is("P3 retract(4) after two adds", twice.retract(4), 1);
        due.is("P3 retract(4) once more", twice.retract(4), 0);
        OrderedResolver implied = due.made(2, 1);
        due.is("P3 retract of a clause implied but not in the base", implied.retract(4), 0);
        due.is("P3 implied(4)", implied.implied(4), true);
    }

    private static void promise4Size() {
        OrderedResolver x = new OrderedResolver(4);
        due.is("P4 size() at first", x.size(), 0);
        x.add(80);
        x.add(1);
        due.is("P4 size() after two", x.size(), 2);
        x.add(1);
        x.add(81);
        x.retract(2);
        x.retract(-1);
        due.is("P4 size() after calls that change nothing", x.size(), 2);
        x.retract(80);
        due.is("P4 size() after one was taken out", x.size(), 1);
        x.add(80);
        due.is("P4 size() with it in again", x.size(), 2);
    }

    private static void promise5Implied() {
        OrderedResolver empty = new OrderedResolver(5);
        for (int c = 0; c < 243; c++) {
            due.is("P5 empty: implied(" + c + ")", empty.implied(c), false);
        }
        // 0 or 1; not 0, or 1: together just variable 1.
        OrderedResolver x = due.made(2, 4, 5);
        boolean[] want = {false, false, false, true, true, true, false, false, false};
        for (int c = 0; c < 9; c++) {
            due.is("P5 {4, 5}: implied(" + c + ")", x.implied(c), want[c]);
        }
        for (int c : Cases.outside(2)) {
            due.is("P5 {4, 5}: implied(" + c + ")", x.implied(c), false);
        }
        x.retract(5);
        due.is("P5 {4}: implied(3)", x.implied(3), false);
        due.is("P5 {4}: implied(4)", x.implied(4), true);
        // 0 leads to 1 leads to 2 leads to 3 leads to 4.
        OrderedResolver chain = due.made(5, 5, 15, 45, 135);
        due.is("P5 chain: 0 leads to 4", chain.implied(2 + 81), true);
        due.is("P5 chain: 4 leads to 0", chain.implied(1 + 162), false);
        chain.retract(15);
        due.is("P5 broken chain: 0 leads to 4", chain.implied(2 + 81), false);
    }

    private static void promise5ImpliedByNoModel() {
        for (int n = 2; n <= 5; n++) {
            OrderedResolver x = due.made(n, 1, 2);
            for (int c = 0; c < Cases.clauses(n); c++) {
                due.is("P5 no model: implied(" + c + ")", x.implied(c), true);
            }
            for (int c : Cases.outside(n)) {
                due.is("P5 no model: implied(" + c + ")", x.implied(c), false);
            }
        }
    }

    private static void primesAre(String base, OrderedResolver x, int... want) {
        String name = "P6/P7 " + base + ": ";
        due.is(name + "primes()", x.primes(), want.length);
        for (int k = 0; k < want.length; k++) {
            due.is(name + "prime(" + k + ")", x.prime(k), want[k]);
        }
        for (int k : new int[] {Cases.LEAST, -3, -2, -1, want.length, want.length + 1, 243, Cases.GREATEST}) {
            due.is(name + "prime(" + k + ")", x.prime(k), NONE);
        }
    }

    private static void promises6And7Primes() {
        for (int n = 2; n <= 5; n++) {
            primesAre("empty", new OrderedResolver(n));
            primesAre("{0}", due.made(n, 0), 0);
            primesAre("{1, 2}", due.made(n, 1, 2), 0);
            primesAre("{last}", due.made(n, Cases.clauses(n) - 1), Cases.clauses(n) - 1);
            primesAre("{4, 1}", due.made(n, 4, 1), 1);
            primesAre("{4, 5}", due.made(n, 4, 5), 3);
            primesAre("{6, 1}", due.made(n, 6, 1), 1, 6);
            primesAre("{4, 5, 7}", due.made(n, 4, 5, 7), 1, 3);
            primesAre("{4, 5, 7, 8}", due.made(n, 4, 5, 7, 8), 0);
        }
        // 0, 1 and 2 alike: each leads to each.
        primesAre("ring", due.made(3, 19, 15, 5), 5, 7, 11, 15, 19, 21);
        // An odd number of 0, 1, 2 is true: nothing resolves.
        primesAre("odd", due.made(3, 25, 13, 23, 17), 13, 17, 23, 25);
        // 0 or 1; not 0, or 2: the resolvent is 1 or 2, prime beside both.
        OrderedResolver resolvent = due.made(3, 4, 11);
        primesAre("{4, 11}", resolvent, 4, 11, 12);
        resolvent.retract(4);
        primesAre("{11}", resolvent, 11);
        primesAre("five units", due.made(5, 162, 27, 18, 3, 2), 2, 3, 18, 27, 162);
    }

    private static void promise7OutsideTheCount() {
        OrderedResolver x = due.made(2, 1, 3);
        due.is("P7 prime(1)", x.prime(1), 3);
        due.is("P7 prime(2)", x.prime(2), NONE);
        x.add(2);
        due.is("P7 prime(0) without a model", x.prime(0), 0);
        due.is("P7 prime(1) without a model", x.prime(1), NONE);
    }

    private static void promise8PrimeWithin() {
        for (int n = 2; n <= 5; n++) {
            int last = Cases.clauses(n) - 1;
            OrderedResolver empty = new OrderedResolver(n);
            OrderedResolver none = due.made(n, 3, 6);
            for (int c : Cases.outside(n)) {
                due.is("P8 empty: primeWithin(" + c + ")", empty.primeWithin(c), BAD);
                due.is("P8 no model: primeWithin(" + c + ")", none.primeWithin(c), BAD);
            }
            for (int c = 0; c <= last; c++) {
                due.is("P8 empty: primeWithin(" + c + ")", empty.primeWithin(c), NONE);
                due.is("P8 no model: primeWithin(" + c + ")", none.primeWithin(c), 0);
            }
        }
        // The primes are 5, 7, 11, 15, 19, 21.
        OrderedResolver ring = due.made(3, 5, 15, 19);
        int[] asked = {0, 2, 5, 8, 11, 13, 14, 16, 17, 19, 21, 22, 23, 25, 26};
        int[] want = {NONE, NONE, 5, NONE, 11, NONE, 5, 7, 11, 19, 21, 19, 5, 7, NONE};
        for (int i = 0; i < asked.length; i++) {
            due.is("P8 ring: primeWithin(" + asked[i] + ")", ring.primeWithin(asked[i]), want[i]);
        }
        // 4 is in the base and implied, but 1 alone is prime.
        OrderedResolver unit = due.made(2, 4, 1);
        due.is("P8 {4, 1}: primeWithin(4)", unit.primeWithin(4), 1);
        due.is("P8 {4, 1}: primeWithin(3)", unit.primeWithin(3), NONE);
        due.is("P8 {4, 1}: primeWithin(5)", unit.primeWithin(5), NONE);
        // The smallest number counts, not the fewest variables.
        OrderedResolver mixed = due.made(3, 4, 9);
        due.is("P8 {4, 9}: primeWithin(13)", mixed.primeWithin(13), 4);
    }

    private static void promise9Models() {
        for (int n = 2; n <= 5; n++) {
            due.is("P9 empty", new OrderedResolver(n).models(), 1 << n);
            due.is("P9 {0}", due.made(n, 0).models(), 0);
            due.is("P9 {1}", due.made(n, 1).models(), 1 << (n - 1));
            due.is("P9 {4}", due.made(n, 4).models(), 3 << (n - 2));
            due.is("P9 {1, 3}", due.made(n, 1, 3).models(), 1 << (n - 2));
            due.is("P9 {last}", due.made(n, Cases.clauses(n) - 1).models(), (1 << n) - 1);
            due.is("P9 {4, 5, 7, 8}", due.made(n, 4, 5, 7, 8).models(), 0);
        }
        due.is("P9 all true", due.made(5, 1, 3, 9, 27, 81).models(), 1);
        OrderedResolver x = due.made(3, 5, 15, 19);
        due.is("P9 ring", x.models(), 2);
        x.retract(15);
        due.is("P9 {5, 19}", x.models(), 4);
    }

    private static void promise10LeastModel() {
        for (int n = 2; n <= 5; n++) {
            OrderedResolver empty = new OrderedResolver(n);
            OrderedResolver none = due.made(n, 1, 2);
            due.is("P10 empty: leastModel(0, 3)", empty.leastModel(0, 3), 0);
            due.is("P10 empty: leastModel(2, 3)", empty.leastModel(2, 3), 2);
            due.is("P10 empty: leastModel(3, 1)", empty.leastModel(3, 1), 1);
            due.is("P10 no model: leastModel(0, 0)", none.leastModel(0, 0), NONE);
            due.is("P10 no model: leastModel(3, 1)", none.leastModel(3, 1), NONE);
        }
        // 0 or 1; not 2, or 0.
        OrderedResolver x = due.made(3, 4, 19);
        due.is("P10 leastModel(0, 0)", x.leastModel(0, 0), 1);
        due.is("P10 leastModel(0, 7)", x.leastModel(0, 7), 1);
        due.is("P10 leastModel(1, 0)", x.leastModel(1, 0), 2);
        due.is("P10 leastModel(1, 6)", x.leastModel(1, 6), 2);
        due.is("P10 leastModel(4, 4)", x.leastModel(4, 4), 5);
        due.is("P10 leastModel(6, 6)", x.leastModel(6, 6), 7);
        due.is("P10 leastModel(5, 4)", x.leastModel(5, 4), NONE);
        due.is("P10 leastModel(3, 0)", x.leastModel(3, 0), NONE);
        due.is("P10 leastModel(7, 3)", x.leastModel(7, 3), 3);
        OrderedResolver last = due.made(5, 1, 3, 9, 27, 81);
        due.is("P10 all true: leastModel(0, 0)", last.leastModel(0, 0), 31);
        due.is("P10 all true: leastModel(31, 31)", last.leastModel(31, 31), 31);
        due.is("P10 all true: leastModel(16, 15)", last.leastModel(16, 15), NONE);
    }

    private static void promise10BitsThatPlayNoPart() {
        for (int n = 2; n <= 5; n++) {
            OrderedResolver x = due.made(n, 4);
            int above = -1 << n;
            due.is("P10 fixed above", x.leastModel(above, above), 1);
            due.is("P10 fixed above, no values", x.leastModel(above, 0), 1);
            due.is("P10 bit n fixed", x.leastModel(1 << n, 1 << n), 1);
            due.is("P10 sign bit fixed", x.leastModel(Cases.LEAST, Cases.LEAST), 1);
            due.is("P10 values above", x.leastModel(1, above), 2);
            due.is("P10 all fixed, values 1", x.leastModel(-1, above | 1), 1);
            due.is("P10 all fixed, values 0", x.leastModel(-1, above), NONE);
            due.is("P10 all fixed, all values", x.leastModel(-1, -1), (1 << n) - 1);
            due.is("P10 highest fixed", x.leastModel(Cases.GREATEST, 2), 2);
        }
    }

    private static void promise11Redundant() {
        for (int n = 2; n <= 5; n++) {
            due.is("P11 empty", new OrderedResolver(n).redundant(), 0);
            due.is("P11 {0}", due.made(n, 0).redundant(), 0);
            due.is("P11 {4}", due.made(n, 4).redundant(), 0);
            due.is("P11 {1, 4}", due.made(n, 1, 4).redundant(), 1);
            due.is("P11 {0, 1}", due.made(n, 0, 1).redundant(), 1);
            due.is("P11 {1, 2}", due.made(n, 1, 2).redundant(), 0);
            due.is("P11 {0, 1, 2}", due.made(n, 0, 1, 2).redundant(), 3);
            due.is("P11 {4, 5}", due.made(n, 4, 5).redundant(), 0);
            due.is("P11 {3, 4, 5}", due.made(n, 3, 4, 5).redundant(), 3);
            due.is("P11 {3, 5, 7}", due.made(n, 3, 5, 7).redundant(), 1);
            due.is("P11 {4, 5, 7, 8}", due.made(n, 4, 5, 7, 8).redundant(), 0);
        }
        // Each of the six follows from the other five, though not all can go.
        due.is("P11 six of the ring", due.made(3, 5, 7, 11, 15, 19, 21).redundant(), 6);
        OrderedResolver ring = due.made(3, 5, 15, 19);
        due.is("P11 ring", ring.redundant(), 0);
        ring.add(23);
        due.is("P11 ring and 23", ring.redundant(), 1);
        ring.retract(5);
        due.is("P11 ring and 23 without 5", ring.redundant(), 0);
    }

    private static void questionsChangeNothing() {
        OrderedResolver x = due.made(3, 5, 15, 19, 23);
        for (int round = 0; round < 2; round++) {
            String name = "round " + round + ": ";
            due.is(name + "size()", x.size(), 4);
            due.is(name + "redundant()", x.redundant(), 1);
            due.is(name + "primes()", x.primes(), 6);
            due.is(name + "prime(5)", x.prime(5), 21);
            due.is(name + "primeWithin(14)", x.primeWithin(14), 5);
            due.is(name + "models()", x.models(), 2);
            due.is(name + "leastModel(2, 2)", x.leastModel(2, 2), 7);
            due.is(name + "implied(7)", x.implied(7), true);
            due.is(name + "add(23)", x.add(23), 0);
            due.is(name + "retract(7)", x.retract(7), 0);
        }
    }
}
