import java.util.ArrayList;
import java.util.List;

/**
 * Promise 12: "Where nothing else is said, a call that is refused (by a code below 0
 * that is named, or by false) changes nothing." Every kind of refused call is made in
 * every state, and all that can be seen of the object is compared with one on which
 * it was not made. A call that only asks changes nothing either, refused or not.
 */
public final class RefusedTest extends TestBase {
    private static final int[] ENDS = {MIN, MAX};

    private static int refused = 0;

    public static void main(String[] args) {
        for (State state : State.all()) {
            String before = Look.at(state::object);
            for (Call call : calls()) {
                look(state, call, before);
            }
            severalInARow(state, before);
        }
        check.isTrue("refused calls were looked at: " + refused, refused > 400);
        check.end();
    }

    private static void look(State state, Call call, String before) {
        int due = call.on(state.model());
        check.due("12: " + state + " " + call, call.on(state.object()), due);
        if (due >= 0 && !call.onlyAsks()) {
            return;
        }
        refused += due < 0 ? 1 : 0;
        String after = Look.at(() -> {
            TripleJoin x = state.object();
            call.on(x);
            return x;
        });
        check.isTrue("12: " + state + " " + call + " changes nothing", after.equals(before));
    }

    private static void severalInARow(State state, String before) {
        String after = Look.at(() -> {
            TripleJoin x = state.object();
            for (Call call : calls()) {
                if (call.on(state.model()) < 0) {
                    check.due("12: in a row " + state + " " + call, call.on(x), -1);
                }
            }
            return x;
        });
        check.isTrue("12: " + state + " refused calls in a row change nothing", after.equals(before));
    }

    private static List<Call> calls() {
        List<Call> calls = new ArrayList<>();
        for (String name : new String[] {"add", "remove"}) {
            inEachPlace(calls, name, -1, 8);
            calls.add(new Call(name, 0, 0, 0));
            calls.add(new Call(name, 7, 7, 7));
        }
        inEachPlace(calls, "pattern", -5, 8);
        calls.add(new Call("pattern", 0, 0, 0));
        calls.add(new Call("pattern", A, B, C));
        calls.add(new Call("pattern", D, D, D));
        for (int variable = -5; variable <= 0; variable++) {
            asks(calls, variable);
        }
        for (int end : ENDS) {
            asks(calls, end);
            calls.add(new Call("solution", end, A));
            calls.add(new Call("with", A, end));
            calls.add(new Call("count", end, end, end));
            calls.add(new Call("has", end, end, end));
        }
        calls.add(new Call("solutions"));
        calls.add(new Call("count", 0, ANY, 7));
        calls.add(new Call("has", 0, 0, 0));
        return calls;
    }

    private static void inEachPlace(List<Call> calls, String name, int below, int above) {
        for (int wrong : new int[] {below, above, MIN, MAX}) {
            calls.add(new Call(name, wrong, 3, 4));
            calls.add(new Call(name, 3, wrong, 4));
            calls.add(new Call(name, 3, 4, wrong));
        }
    }

    private static void asks(List<Call> calls, int variable) {
        calls.add(new Call("solution", 0, variable));
        calls.add(new Call("solution", -1, variable));
        calls.add(new Call("solution", 4096, variable));
        calls.add(new Call("with", variable, 0));
        calls.add(new Call("with", variable, 8));
        calls.add(new Call("values", variable));
    }
}
