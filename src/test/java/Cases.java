import java.util.ArrayList;
import java.util.List;

/** The arguments and bases that more than one test uses. */
final class Cases {
    static final int LEAST = Integer.MIN_VALUE;
    static final int GREATEST = Integer.MAX_VALUE;
    static final int CAPACITY = 12;

    /** An object is used for at most so many calls after it has been made. */
    static final int CALLS = 512;

    private static final int[] POWER_OF_3 = {1, 3, 9, 27, 81, 243};

    // Each has all five variables, and each two differ in two of them or more,
    // so no two have a resolvent.
    private static final int[] TWELVE_APART = {
        121, 125, 131, 133, 149, 151, 157, 161, 203, 205, 211, 229
    };

    private Cases() {
    }

    /** 3^n: the number of clauses over n variables. */
    static int clauses(int n) {
        return POWER_OF_3[n];
    }

    static int wantsTrue(int v) {
        return POWER_OF_3[v];
    }

    static int wantsFalse(int v) {
        return 2 * POWER_OF_3[v];
    }

    /**
     * Numbers that are no clause over n variables: beside the edges, and far off;
     * some would be clause 4 if they were cut down to fewer bits or by 3^n.
     */
    static int[] outside(int n) {
        int count = clauses(n);
        return new int[] {
            LEAST, LEAST + 1, LEAST + 4, -243, -count, -count + 4, -4, -3, -2, -1,
            count, count + 1, count + 4, 243, 244, 256 + 4, 65536 + 4, GREATEST - 1, GREATEST
        };
    }

    /** The n clauses that leave the assignment as the only model. */
    static int[] onlyModel(int n, int assignment) {
        int[] base = new int[n];
        for (int v = 0; v < n; v++) {
            base[v] = (assignment >> v & 1) == 1 ? wantsTrue(v) : wantsFalse(v);
        }
        return base;
    }

    /** Variable 0 leads to 1, 1 to 2, and so on, and the last to 0. */
    static int[] ring(int n) {
        int[] base = new int[n];
        for (int v = 0; v < n; v++) {
            base[v] = wantsFalse(v) + wantsTrue((v + 1) % n);
        }
        return base;
    }

    /** The twelve clauses with the greatest numbers; n is 3 or more. */
    static int[] lastTwelve(int n) {
        int[] base = new int[CAPACITY];
        for (int i = 0; i < CAPACITY; i++) {
            base[i] = clauses(n) - CAPACITY + i;
        }
        return base;
    }

    /** All the clauses over two variables: more than nine there are not. */
    static int[] allNine() {
        return new int[] {0, 1, 2, 3, 4, 5, 6, 7, 8};
    }

    static int[] twelveApart() {
        return TWELVE_APART.clone();
    }

    static List<int[]> basesWithoutModel(int n) {
        List<int[]> bases = new ArrayList<>();
        bases.add(new int[] {0});
        bases.add(new int[] {wantsTrue(n - 1), wantsFalse(n - 1)});
        bases.add(new int[] {4, 5, 7, 8});
        if (n == 2) {
            bases.add(allNine());
        } else {
            bases.add(new int[] {1, 2, 3, 6, 9, 18, 4, 5, 7, 8, 10, 20});
        }
        return bases;
    }

    static List<int[]> basesWithModels(int n) {
        List<int[]> bases = new ArrayList<>();
        bases.add(new int[] {});
        bases.add(new int[] {4});
        bases.add(ring(n));
        bases.add(onlyModel(n, 1));
        if (n >= 3) {
            bases.add(lastTwelve(n));
        }
        if (n == 5) {
            bases.add(twelveApart());
        }
        return bases;
    }

    static List<int[]> bases(int n) {
        List<int[]> bases = basesWithModels(n);
        bases.addAll(basesWithoutModel(n));
        return bases;
    }

    static boolean isIn(int[] base, int c) {
        for (int member : base) {
            if (member == c) {
                return true;
            }
        }
        return false;
    }
}
