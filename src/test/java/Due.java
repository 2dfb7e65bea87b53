import java.util.Arrays;

/** Counts and prints the calls whose answer is not the one that is due. */
final class Due {
    private int checked = 0;
    private int wrong = 0;
    private String sentence = "";

    /** Runs a test of these words of the document, apart from the others. */
    void test(String words, Runnable test) {
        sentence = words + " | ";
        // No call may throw; one that does must not keep the other tests from running.
        try {
            test.run();
        } catch (RuntimeException e) {
            wrong++;
            System.out.println(sentence + "threw " + e);
        }
        sentence = "";
    }

    /** A new object with these clauses in its base. */
    OrderedResolver made(int variables, int... base) {
        OrderedResolver x = new OrderedResolver(variables);
        for (int c : base) {
            is(named(variables, base) + "add(" + c + ") at first", x.add(c), 1);
        }
        return x;
    }

    /** How a message names an object that was made so. */
    static String named(int variables, int... base) {
        return variables + " variables, base " + Arrays.toString(base) + ": ";
    }

    void is(String call, long got, long want) {
        checked++;
        if (got != want) {
            wrong++;
            System.out.println(sentence + call + " answered " + got + ", due is " + want);
        }
    }

    void is(String call, boolean got, boolean want) {
        is(call, got ? 1L : 0L, want ? 1L : 0L);
    }

    void end() {
        System.out.println(checked + " answers looked at, " + wrong + " not as due");
        if (wrong != 0) {
            System.exit(1);
        }
    }
}
