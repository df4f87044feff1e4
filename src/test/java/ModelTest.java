/** Long mixed runs of calls, each answer compared with the one of the Model. */
public final class ModelTest {
    private static final int RUNS = 300;
    private static final int CALLS = 512;

    private static final Check check = new Check();
    private static long state = 20261115L;

    public static void main(String[] args) {
        for (int run = 0; run < RUNS; run++) {
            // Few different numbers make joins that have solutions; all eight reach the edges.
            int numbers = 2 + run % 7;
            TripleJoin x = new TripleJoin();
            Model model = new Model();
            for (int i = 0; i < CALLS; i++) {
                Call call = next(model, numbers);
                check.due("run " + run + " call " + i + ": " + call, call.on(x), call.on(model));
            }
        }
        check.end();
    }

    /** A fixed row of numbers: the same in every run of the test. */
    private static int below(int bound) {
        state = state * 6364136223846793005L + 1442695040888963407L;
        return (int) ((state >>> 33) % bound);
    }

    private static int number(int numbers) {
        return below(25) == 0 ? below(14) - 6 : below(numbers);
    }

    private static int place(int numbers) {
        return below(3) == 0 ? number(numbers) : -1 - below(4 + (below(40) == 0 ? 1 : 0));
    }

    private static int variable() {
        return below(15) == 0 ? below(14) - 6 : -1 - below(4);
    }

    private static Call next(Model model, int numbers) {
        int kind = below(24);
        if (kind < 9) {
            String name = kind < 7 ? "add" : "remove";
            return new Call(name, number(numbers), number(numbers), number(numbers));
        }
        if (kind == 9) {
            return new Call("clear");
        }
        if (kind < 14) {
            return new Call("pattern", place(numbers), place(numbers), place(numbers));
        }
        return ask(model, numbers, kind);
    }

    private static Call ask(Model model, int numbers, int kind) {
        if (kind < 16) {
            return new Call("solutions");
        }
        if (kind < 19) {
            return new Call("solution", below(model.solutions() + 2) - below(2), variable());
        }
        if (kind == 19) {
            return new Call("with", variable(), number(numbers));
        }
        if (kind == 20) {
            return new Call("values", variable());
        }
        if (kind < 23) {
            return new Call("count", place(numbers), place(numbers), place(numbers));
        }
        return new Call("has", number(numbers), number(numbers), number(numbers));
    }
}
