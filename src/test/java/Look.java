import java.util.ArrayList;
import java.util.List;
import java.util.function.Supplier;

/**
 * All that can be seen of an object from outside, as a text. Each part is looked at
 * on an object made anew, because an object is used for at most 512 calls.
 */
final class Look {
    private final StringBuilder seen = new StringBuilder();
    private final List<int[]> held = new ArrayList<>();

    private Look() {
    }

    static String at(Supplier<TripleJoin> make) {
        Look look = new Look();
        look.facts(make.get(), 0);
        look.facts(make.get(), 4);
        look.solutions(make.get());
        look.removing(make.get());
        look.adding(make.get());
        return look.seen.toString();
    }

    private void put(int answer) {
        seen.append(answer).append(' ');
    }

    private void facts(TripleJoin x, int firstS) {
        for (int i = 0; i < 256; i++) {
            int[] fact = {firstS + i / 64, i / 8 % 8, i % 8};
            int has = x.has(fact[0], fact[1], fact[2]);
            put(has);
            if (has == 1) {
                held.add(fact);
            }
        }
    }

    private void solutions(TripleJoin x) {
        put(x.count(-1, -1, -1));
        put(x.solutions());
        for (int variable = -1; variable >= -4; variable--) {
            put(x.values(variable));
            for (int n = 0; n < 8; n++) {
                put(x.with(variable, n));
                put(x.solution(n, variable));
            }
        }
    }

    /** How the number of facts goes down, and which solutions go with each fact. */
    private void removing(TripleJoin x) {
        for (int[] fact : held) {
            put(x.remove(fact[0], fact[1], fact[2]));
            put(x.solutions());
        }
    }

    /** How much room there is for patterns and for facts. */
    private void adding(TripleJoin x) {
        for (int i = 0; i < 5; i++) {
            put(x.pattern(-1, -2, -3));
            put(x.solutions());
        }
        for (int i = 0; i < 100; i++) {
            put(x.add(7 - i / 64, i / 8 % 8, i % 8));
        }
    }
}
