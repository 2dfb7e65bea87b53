/**
 * Compares the program with the definitions of the document on fresh objects:
 * every question on every base over two variables, and on some bases over each
 * number of variables.
 */
public final class DefinitionsTest {
    private static final Due due = new Due();

    public static void main(String[] args) {
        due.test("every base over two variables", DefinitionsTest::everyBaseOfTwo);
        due.test("some bases over 2 to 5 variables", DefinitionsTest::someBases);
        due.end();
    }

    private static void everyBaseOfTwo() {
        for (int members = 0; members < 512; members++) {
            int[] base = new int[Integer.bitCount(members)];
            int size = 0;
            for (int c = 0; c < 9; c++) {
                if ((members >> c & 1) == 1) {
                    base[size++] = c;
                }
            }
            everyQuestion(2, base);
        }
    }

    private static void someBases() {
        for (int n = 2; n <= 5; n++) {
            for (int[] base : Cases.bases(n)) {
                everyQuestion(n, base);
            }
        }
    }

    // Each kind of question has an object of its own: all would be more calls
    // than one is promised for.
    private static void everyQuestion(int n, int[] base) {
        int last = Cases.clauses(n) - 1;
        SideBySide.based(due, n, base).counts();
        SideBySide implied = SideBySide.based(due, n, base);
        SideBySide prime = SideBySide.based(due, n, base);
        SideBySide primeWithin = SideBySide.based(due, n, base);
        for (int i = -1; i <= last + 1; i++) {
            implied.implied(i);
            prime.prime(i);
            primeWithin.primeWithin(i);
        }
        for (int fixed = 0; fixed < 2 << n; fixed++) {
            SideBySide leastModel = SideBySide.based(due, n, base);
            for (int values = 0; values < 2 << n; values++) {
                leastModel.leastModel(fixed, values);
            }
        }
    }
}
