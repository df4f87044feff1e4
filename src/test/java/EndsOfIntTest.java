import java.util.List;

/**
 * Rule 7 of LANGUAGE.md: no call throws or fails to end, for any arguments in any
 * state. Every method that takes arguments gets every mixture of the ends of int and
 * of the edges of the document, in every state; the answers are the Model's.
 */
public final class EndsOfIntTest extends TestBase {
    private static final int[] EDGES = {MIN, MIN + 1, -5, -4, -1, 0, 7, 8, MAX - 1, MAX};
    // With the calls that make the state, well within the 512 of an object.
    private static final int CALLS_ON_ONE = 400;

    private static State state;
    private static TripleJoin x;
    private static Model model;
    private static int calls;

    public static void main(String[] args) {
        for (State one : State.all()) {
            state = one;
            for (String name : List.of("add", "remove", "pattern", "count", "has")) {
                renew();
                threeArguments(name);
            }
            for (String name : List.of("solution", "with")) {
                renew();
                twoArguments(name);
            }
            renew();
            for (int a : EDGES) {
                make(new Call("values", a));
            }
        }
        check.end();
    }

    private static void renew() {
        x = state.object();
        model = state.model();
        calls = 0;
    }

    private static void threeArguments(String name) {
        for (int a : EDGES) {
            for (int b : EDGES) {
                for (int c : EDGES) {
                    make(new Call(name, a, b, c));
                }
            }
        }
    }

    private static void twoArguments(String name) {
        for (int a : EDGES) {
            for (int b : EDGES) {
                make(new Call(name, a, b));
            }
        }
    }

    private static void make(Call call) {
        if (calls == CALLS_ON_ONE) {
            renew();
        }
        calls++;
        String at = "rule 7: " + state + " " + call;
        try {
            check.due(at, call.on(x), call.on(model));
        } catch (RuntimeException | StackOverflowError thrown) {
            check.isTrue(at + " throws nothing, but threw " + thrown, false);
        }
    }
}
