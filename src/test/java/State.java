import java.util.ArrayList;
import java.util.List;

/** A state that an object can be brought to, again and again, by the same calls. */
record State(String name, List<Call> calls) {
    TripleJoin object() {
        TripleJoin x = new TripleJoin();
        for (Call call : calls) {
            call.on(x);
        }
        return x;
    }

    Model model() {
        Model model = new Model();
        for (Call call : calls) {
            call.on(model);
        }
        return model;
    }

    static List<State> all() {
        return List.of(
                new State("new", List.of()),
                new State("one fact, no pattern", List.of(new Call("add", 0, 0, 0))),
                new State("a pattern, no fact", List.of(new Call("pattern", -1, 0, -2))),
                new State("some facts, a path", somePath()),
                new State("some facts, cleared", someCleared()),
                new State("full facts, full question", full()),
                new State("full facts, four patterns of numbers", fullOfNumbers()));
    }

    private static List<Call> someFacts() {
        List<Call> calls = new ArrayList<>();
        for (int n = 0; n < 8; n++) {
            calls.add(new Call("add", n, 0, 7 - n));
            calls.add(new Call("add", n, 1, n / 2));
        }
        return calls;
    }

    private static List<Call> somePath() {
        List<Call> calls = someFacts();
        calls.add(new Call("pattern", -1, 0, -2));
        calls.add(new Call("pattern", -2, 1, -4));
        return calls;
    }

    private static List<Call> someCleared() {
        List<Call> calls = somePath();
        calls.add(new Call("pattern", 7, -3, 0));
        calls.add(new Call("clear"));
        return calls;
    }

    private static List<Call> fullFacts() {
        List<Call> calls = new ArrayList<>();
        for (int i = 0; i < 48; i++) {
            calls.add(new Call("add", i / 6, i % 6, (i + i / 6) % 8));
        }
        return calls;
    }

    private static List<Call> full() {
        List<Call> calls = fullFacts();
        calls.add(new Call("pattern", -1, 0, -2));
        calls.add(new Call("pattern", -2, -4, 3));
        calls.add(new Call("pattern", 0, 0, 0));
        calls.add(new Call("pattern", -1, 1, -3));
        return calls;
    }

    private static List<Call> fullOfNumbers() {
        List<Call> calls = fullFacts();
        for (int i = 0; i < 4; i++) {
            calls.add(new Call("pattern", 0, i, i));
        }
        return calls;
    }

    @Override
    public String toString() {
        return "[" + name + "]";
    }
}
