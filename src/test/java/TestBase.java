/** The names, wrong inputs and beginnings that several tests share. */
abstract class TestBase {
    static final int A = -1;
    static final int B = -2;
    static final int C = -3;
    static final int D = -4;
    static final int ANY = -1;

    static final int MIN = Integer.MIN_VALUE;
    static final int MAX = Integer.MAX_VALUE;

    // Each begins with the first that is refused on either side. The others have
    // the low bits of a right one, or come to a right one by a wrap-around.
    static final int[] NOT_NUMBERS = {
        -1, 8, -4, -5, -8, 9, 15, 16, 64, 512, 1 << 26, 1 << 29, MIN, MIN + 1, MAX - 1, MAX,
    };
    static final int[] NOT_PLACES = {
        -5, 8, -6, -8, 9, 28, 31, -36, -33, 64, 512, 1 << 26, MIN, MIN + 1, MAX - 1, MAX,
    };
    static final int[] NOT_VARIABLES = {
        -5, 0, 1, 7, 8, -6, -8, 28, 31, -36, -33, MIN, MIN + 1, MAX - 1, MAX,
    };

    static final Check check = new Check();

    static TripleJoin withFacts(int... parts) {
        TripleJoin x = new TripleJoin();
        for (int i = 0; i < parts.length; i += 3) {
            check.due("add", x.add(parts[i], parts[i + 1], parts[i + 2]), i / 3 + 1);
        }
        return x;
    }

    /** 48 facts, among them (0, 0, 0) but not (7, 7, 7). */
    static TripleJoin full() {
        TripleJoin x = new TripleJoin();
        for (int i = 0; i < 48; i++) {
            check.due("add no. " + i, x.add(i / 8, i % 8, i % 3), i + 1);
        }
        return x;
    }

    /** Every choice of numbers for A to D is a solution: 4096, after 12 calls. */
    static TripleJoin withAllChoices() {
        TripleJoin x = new TripleJoin();
        for (int n = 0; n < 8; n++) {
            x.add(n, 0, 0);
        }
        for (int variable = A; variable >= D; variable--) {
            x.pattern(variable, 0, 0);
        }
        return x;
    }
}
