/** Long mixed runs of calls, each answer compared with the one of the Model. */
public final class ModelTest {
    private static final int RUNS = 300;
    private static final int CALLS = 512;

    private static final Check check = new Check();
    private static long state = 20261115L;

    public static void main(String[] args) {
        for (int run = 0; run < RUNS; run++) {
            // Few different numbers make joins that have solutions; all eight reach the edges.
            int numbers = 2 + run % 7;
            TripleJoin x = new TripleJoin();
            Model model = new Model();
            for (int call = 0; call < CALLS; call++) {
                step("run " + run + " call " + call + ": ", x, model, numbers);
            }
        }
        check.end();
    }

    /** A fixed row of numbers: the same in every run of the test. */
    private static int below(int bound) {
        state = state * 6364136223846793005L + 1442695040888963407L;
        return (int) ((state >>> 33) % bound);
    }

    private static int number(int numbers) {
        return below(25) == 0 ? below(14) - 6 : below(numbers);
    }

    private static int place(int numbers) {
        return below(3) == 0 ? number(numbers) : -1 - below(4 + (below(40) == 0 ? 1 : 0));
    }

    private static int variable() {
        return below(15) == 0 ? below(14) - 6 : -1 - below(4);
    }

    private static void step(String at, TripleJoin x, Model model, int numbers) {
        int kind = below(24);
        if (kind < 9) {
            changeFacts(at, x, model, numbers, kind);
        } else if (kind < 14) {
            changeQuestion(at, x, model, numbers, kind);
        } else {
            ask(at, x, model, numbers, kind);
        }
    }

    private static void changeFacts(String at, TripleJoin x, Model model, int numbers, int kind) {
        int s = number(numbers);
        int p = number(numbers);
        int o = number(numbers);
        String parts = "(" + s + ", " + p + ", " + o + ")";
        if (kind < 7) {
            check.due(at + "add" + parts, x.add(s, p, o), model.add(s, p, o));
        } else {
            check.due(at + "remove" + parts, x.remove(s, p, o), model.remove(s, p, o));
        }
    }

    private static void changeQuestion(String at, TripleJoin x, Model model, int numbers, int kind) {
        if (kind == 9) {
            x.clear();
            model.clear();
            return;
        }
        int s = place(numbers);
        int p = place(numbers);
        int o = place(numbers);
        String parts = "(" + s + ", " + p + ", " + o + ")";
        check.due(at + "pattern" + parts, x.pattern(s, p, o), model.pattern(s, p, o));
    }

    private static void ask(String at, TripleJoin x, Model model, int numbers, int kind) {
        int variable = variable();
        int value = number(numbers);
        int s = place(numbers);
        int p = place(numbers);
        int o = place(numbers);
        if (kind < 16) {
            check.due(at + "solutions()", x.solutions(), model.solutions());
        } else if (kind < 19) {
            int k = below(model.solutions() + 2) - below(2);
            String call = "solution(" + k + ", " + variable + ")";
            check.due(at + call, x.solution(k, variable), model.solution(k, variable));
        } else if (kind == 19) {
            String call = "with(" + variable + ", " + value + ")";
            check.due(at + call, x.with(variable, value), model.with(variable, value));
        } else if (kind == 20) {
            check.due(at + "values(" + variable + ")", x.values(variable), model.values(variable));
        } else if (kind < 23) {
            String call = "count(" + s + ", " + p + ", " + o + ")";
            check.due(at + call, x.count(s, p, o), model.count(s, p, o));
        } else {
            int other = number(numbers);
            String call = "has(" + value + ", " + other + ", " + value + ")";
            check.due(at + call, x.has(value, other, value), model.has(value, other, value));
        }
    }
}
