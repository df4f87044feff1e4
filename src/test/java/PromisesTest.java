/** Each promise of the document in its own method: ordinary inputs, edges, wrong inputs. */
public final class PromisesTest extends TestBase {
    public static void main(String[] args) {
        promise1NewObject();
        promise2AddOrdinary();
        promise2AddEveryFact();
        promise2AddWrong();
        promise2AddLimit();
        promise3Remove();
        promise3RemoveWrong();
        promise4Pattern();
        promise4PatternWrong();
        promise5Clear();
        promise6Solutions();
        promise6WithoutVariables();
        promise6FollowsTheFacts();
        promise6ManySolutions();
        promise7Solution();
        promise7OrderIsByVariableNotByPlace();
        promise7EveryVariableAlone();
        promise7Wrong();
        promise8With();
        promise9Values();
        promise10Count();
        promise11Has();
        promise12RefusedChangesNothing();
        check.end();
    }

    private static void promise1NewObject() {
        TripleJoin x = new TripleJoin();
        check.due("1: count of all", x.count(ANY, ANY, ANY), 0);
        check.due("1: has(0, 0, 0)", x.has(0, 0, 0), 0);
        check.due("1: has(7, 7, 7)", x.has(7, 7, 7), 0);
        check.due("1: solutions()", x.solutions(), 1);
        for (int variable = D; variable <= A; variable++) {
            check.due("1: values of " + variable, x.values(variable), -1);
        }
        check.due("1: first pattern", x.pattern(A, B, C), 1);
        check.due("1: no solution without facts", x.solutions(), 0);
        check.due("1: first add", x.add(0, 0, 0), 1);

        TripleJoin other = new TripleJoin();
        check.due("1: objects share no facts", other.has(0, 0, 0), 0);
        check.due("1: objects share no question", other.solutions(), 1);
    }

    private static void promise2AddOrdinary() {
        TripleJoin x = new TripleJoin();
        check.due("2: add(1, 2, 3)", x.add(1, 2, 3), 1);
        check.due("2: add(3, 2, 1)", x.add(3, 2, 1), 2);
        check.due("2: add(1, 2, 3) again", x.add(1, 2, 3), -1);
        check.due("2: count", x.count(ANY, ANY, ANY), 2);
        check.due("2: has(1, 2, 3)", x.has(1, 2, 3), 1);
        check.due("2: has(3, 2, 1)", x.has(3, 2, 1), 1);
        check.due("2: has(1, 3, 2)", x.has(1, 3, 2), 0);
    }

    private static void promise2AddEveryFact() {
        TripleJoin x = new TripleJoin();
        for (int i = 0; i < 512; i++) {
            int s = i / 64;
            int p = i / 8 % 8;
            int o = i % 8;
            check.due("2: add of fact " + i, x.add(s, p, o), 1);
            check.due("2: only fact " + i + " is held", x.count(ANY, ANY, ANY), 1);
            check.due("2: has fact " + i, x.has(s, p, o), 1);
            check.due("3: remove of fact " + i, x.remove(s, p, o), 0);
            // An object promises nothing after its 512th call.
            x = i % 100 == 99 ? new TripleJoin() : x;
        }
    }

    private static void promise2AddWrong() {
        TripleJoin x = new TripleJoin();
        for (int n : NOT_NUMBERS) {
            check.due("2: add s " + n, x.add(n, 0, 0), -1);
            check.due("2: add p " + n, x.add(0, n, 0), -1);
            check.due("2: add o " + n, x.add(0, 0, n), -1);
        }
        check.due("2: nothing is held", x.count(ANY, ANY, ANY), 0);
        check.due("2: edge add(0, 0, 0)", x.add(0, 0, 0), 1);
        check.due("2: edge add(7, 7, 7)", x.add(7, 7, 7), 2);
    }

    private static void promise2AddLimit() {
        TripleJoin x = full();
        check.due("2: the 49th", x.add(7, 7, 7), -1);
        check.due("2: the 49th is not held", x.has(7, 7, 7), 0);
        check.due("2: 48 are held", x.count(ANY, ANY, ANY), 48);
        check.due("2: a held one when full", x.add(0, 0, 0), -1);
        check.due("2: room is made", x.remove(0, 0, 0), 47);
        check.due("2: room is used", x.add(7, 7, 7), 48);
        check.due("2: full again", x.add(0, 0, 0), -1);
    }

    private static void promise3Remove() {
        TripleJoin x = withFacts(0, 0, 0, 1, 2, 3, 7, 7, 7);
        check.due("3: remove(1, 2, 3)", x.remove(1, 2, 3), 2);
        check.due("3: not held any longer", x.has(1, 2, 3), 0);
        check.due("3: the first stays", x.has(0, 0, 0), 1);
        check.due("3: the last stays", x.has(7, 7, 7), 1);
        check.due("3: remove(1, 2, 3) again", x.remove(1, 2, 3), -1);
        check.due("3: remove(7, 7, 7)", x.remove(7, 7, 7), 1);
        check.due("3: remove(0, 0, 0)", x.remove(0, 0, 0), 0);
        check.due("3: remove from none", x.remove(0, 0, 0), -1);
        check.due("3: add after remove", x.add(1, 2, 3), 1);
    }

    private static void promise3RemoveWrong() {
        TripleJoin x = withFacts(0, 0, 0, 7, 7, 7);
        for (int n : NOT_NUMBERS) {
            check.due("3: remove s " + n, x.remove(n, 0, 0), -1);
            check.due("3: remove p " + n, x.remove(0, n, 0), -1);
            check.due("3: remove o " + n, x.remove(0, 0, n), -1);
            check.due("3: remove of all " + n, x.remove(n, n, n), -1);
        }
        check.due("3: remove(0, 7, 0)", x.remove(0, 7, 0), -1);
        check.due("3: both are held", x.count(ANY, ANY, ANY), 2);
    }

    private static void promise4Pattern() {
        TripleJoin x = new TripleJoin();
        check.due("4: pattern 1", x.pattern(D, 7, 0), 1);
        check.due("4: pattern 2", x.pattern(0, D, 7), 2);
        check.due("4: pattern 3", x.pattern(7, 0, D), 3);
        check.due("4: pattern 3 once more", x.pattern(7, 0, D), 4);
        check.due("4: a fifth", x.pattern(0, 0, 0), -1);
        check.due("4: a fifth with a new variable", x.pattern(A, 0, 0), -1);
        check.due("4: A doesn't stand", x.values(A), -1);
        check.due("4: D stands", x.values(D), 0);
        x.add(3, 7, 0);
        x.add(0, 3, 7);
        check.due("4: pattern 3 is asked", x.solutions(), 0);
        x.add(7, 0, 3);
        check.due("4: all patterns hold", x.solutions(), 1);
        check.due("4: D", x.solution(0, D), 3);
        x.remove(3, 7, 0);
        check.due("4: pattern 1 is asked", x.solutions(), 0);
    }

    private static void promise4PatternWrong() {
        TripleJoin x = withFacts(0, 0, 0);
        for (int n : NOT_PLACES) {
            check.due("4: pattern s " + n, x.pattern(n, A, B), -1);
            check.due("4: pattern p " + n, x.pattern(A, n, B), -1);
            check.due("4: pattern o " + n, x.pattern(A, B, n), -1);
        }
        check.due("4: question is empty", x.solutions(), 1);
        check.due("4: A doesn't stand", x.values(A), -1);
        check.due("4: B doesn't stand", x.with(B, 0), -1);
        check.due("4: next is the first", x.pattern(7, 7, 7), 1);
    }

    private static void promise5Clear() {
        TripleJoin x = withFacts(1, 2, 3, 4, 5, 6);
        x.clear();
        check.due("5: clear of an empty question", x.solutions(), 1);
        x.pattern(A, B, C);
        x.pattern(D, 0, 0);
        x.pattern(0, 0, 0);
        x.pattern(0, 0, 0);
        check.due("5: before", x.solutions(), 0);
        x.clear();
        check.due("5: empty question", x.solutions(), 1);
        for (int variable = D; variable <= A; variable++) {
            check.due("5: values of " + variable, x.values(variable), -1);
            check.due("5: with " + variable, x.with(variable, 0), -1);
            check.due("5: solution of " + variable, x.solution(0, variable), -1);
        }
        check.due("5: facts stay", x.count(ANY, ANY, ANY), 2);
        check.due("5: pattern is the first", x.pattern(A, 2, 3), 1);
        check.due("5: only the new pattern is asked", x.solutions(), 1);
        check.due("5: B no longer stands", x.values(B), -1);
        check.due("5: D no longer stands", x.values(D), -1);
        check.due("5: the number of facts stays", x.add(7, 7, 7), 3);
    }

    private static void promise6Solutions() {
        TripleJoin x = withFacts(1, 0, 2, 2, 0, 3, 3, 0, 1, 3, 0, 3, 5, 5, 5);
        x.pattern(A, 0, B);
        check.due("6: one pattern", x.solutions(), 4);
        x.pattern(B, 0, C);
        check.due("6: a path of two", x.solutions(), 6);
        x.pattern(C, 0, A);
        check.due("6: a ring of three", x.solutions(), 4);
        x.pattern(D, D, D);
        check.due("6: and one apart", x.solutions(), 4);
        x.clear();
        x.pattern(A, 0, A);
        check.due("6: a variable twice in a pattern", x.solutions(), 1);
        x.clear();
        x.pattern(A, B, A);
        check.due("6: s and o alike", x.solutions(), 2);
        x.clear();
        x.pattern(A, B, C);
        check.due("6: every fact", x.solutions(), 5);
        x.pattern(A, B, C);
        check.due("6: a pattern twice", x.solutions(), 5);
        x.clear();
        x.pattern(A, 0, 3);
        x.pattern(B, 0, 3);
        check.due("6: two variables may have one number", x.solutions(), 4);
        x.clear();
        x.pattern(6, A, B);
        check.due("6: none", x.solutions(), 0);
    }

    private static void promise6WithoutVariables() {
        TripleJoin x = withFacts(0, 0, 0, 7, 7, 7);
        check.due("6: no pattern", x.solutions(), 1);
        x.pattern(0, 0, 0);
        check.due("6: a held fact", x.solutions(), 1);
        x.pattern(7, 7, 7);
        check.due("6: two held facts", x.solutions(), 1);
        x.pattern(0, 7, 0);
        check.due("6: one that is not held", x.solutions(), 0);
        x.pattern(0, 0, 0);
        check.due("6: still one that is not held", x.solutions(), 0);
    }

    private static void promise6FollowsTheFacts() {
        TripleJoin x = new TripleJoin();
        x.pattern(A, 1, B);
        check.due("6: no fact", x.solutions(), 0);
        x.add(2, 1, 3);
        check.due("6: after add", x.solutions(), 1);
        x.add(4, 1, 5);
        check.due("6: after add", x.solutions(), 2);
        x.remove(2, 1, 3);
        check.due("6: after remove", x.solutions(), 1);
        check.due("7: after remove", x.solution(0, A), 4);
    }

    private static void promise6ManySolutions() {
        TripleJoin x = withAllChoices();
        check.due("6: all choices", x.solutions(), 4096);
        check.due("7: last solution, A", x.solution(4095, A), 7);
        check.due("7: last solution, D", x.solution(4095, D), 7);
        check.due("7: beyond the last", x.solution(4096, D), -1);
        check.due("7: 1234 is 2 3 2 2 in eights, A", x.solution(1234, A), 2);
        check.due("7: 1234, B", x.solution(1234, B), 3);
        check.due("7: 1234, C", x.solution(1234, C), 2);
        check.due("7: 1234, D", x.solution(1234, D), 2);
        for (int variable = A; variable >= D; variable--) {
            check.due("8: an eighth has 7", x.with(variable, 7), 512);
            check.due("8: an eighth has 0", x.with(variable, 0), 512);
            check.due("9: all numbers", x.values(variable), 8);
        }
    }

    private static void promise7Solution() {
        TripleJoin x = withFacts(5, 1, 0, 2, 1, 7, 2, 1, 4, 0, 1, 6);
        x.pattern(A, 1, B);
        int[] as = {0, 2, 2, 5};
        int[] bs = {6, 4, 7, 0};
        for (int k = 0; k < 4; k++) {
            check.due("7: A of " + k, x.solution(k, A), as[k]);
            check.due("7: B of " + k, x.solution(k, B), bs[k]);
        }
        check.due("7: beyond the last", x.solution(4, A), -1);
    }

    private static void promise7OrderIsByVariableNotByPlace() {
        TripleJoin x = withFacts(0, 0, 7, 1, 3, 5, 2, 3, 5, 3, 6, 1, 4, 6, 0);
        x.pattern(D, C, B);
        int[] bs = {0, 1, 5, 5, 7};
        int[] cs = {6, 6, 3, 3, 0};
        int[] ds = {4, 3, 1, 2, 0};
        for (int k = 0; k < 5; k++) {
            check.due("7: B of " + k, x.solution(k, B), bs[k]);
            check.due("7: C of " + k, x.solution(k, C), cs[k]);
            check.due("7: D of " + k, x.solution(k, D), ds[k]);
            check.due("7: A doesn't stand in " + k, x.solution(k, A), -1);
        }
        x.clear();
        x.pattern(D, 3, B);
        x.pattern(A, 6, C);
        int[] cOfK = {1, 1, 0, 0};
        int[] dOfK = {1, 2, 1, 2};
        for (int k = 0; k < 4; k++) {
            check.due("7: A of " + k, x.solution(k, A), 3 + k / 2);
            check.due("7: B of " + k, x.solution(k, B), 5);
            check.due("7: C of " + k, x.solution(k, C), cOfK[k]);
            check.due("7: D of " + k, x.solution(k, D), dOfK[k]);
        }
    }

    private static void promise7EveryVariableAlone() {
        for (int variable = A; variable >= D; variable--) {
            TripleJoin x = withFacts(0, 0, 0, 0, 7, 0, 0, 3, 0);
            x.pattern(0, variable, 0);
            check.due("6: alone " + variable, x.solutions(), 3);
            check.due("7: first of " + variable, x.solution(0, variable), 0);
            check.due("7: second of " + variable, x.solution(1, variable), 3);
            check.due("7: third of " + variable, x.solution(2, variable), 7);
            check.due("7: no fourth of " + variable, x.solution(3, variable), -1);
            for (int other = A; other >= D; other--) {
                if (other != variable) {
                    check.due("7: " + other + " beside " + variable, x.solution(0, other), -1);
                    check.due("8: " + other + " beside " + variable, x.with(other, 0), -1);
                    check.due("9: " + other + " beside " + variable, x.values(other), -1);
                }
            }
        }
    }

    private static void promise7Wrong() {
        TripleJoin x = withFacts(1, 1, 1);
        x.pattern(A, B, C);
        x.pattern(D, D, D);
        int[] wrongK = {-1, 1, 2, 4096, Integer.MIN_VALUE, Integer.MAX_VALUE};
        for (int k : wrongK) {
            check.due("7: k " + k, x.solution(k, A), -1);
        }
        for (int variable : NOT_VARIABLES) {
            check.due("7: variable " + variable, x.solution(0, variable), -1);
        }
        check.due("7: right", x.solution(0, A), 1);
        x.clear();
        check.due("7: one solution, but no variable", x.solution(0, A), -1);
        x.pattern(1, 1, 1);
        check.due("7: one solution, but numbers only", x.solution(0, A), -1);
    }

    private static void promise8With() {
        TripleJoin x = withFacts(1, 0, 2, 1, 0, 3, 2, 0, 3, 0, 0, 7);
        x.pattern(A, 0, B);
        check.due("8: A 1", x.with(A, 1), 2);
        check.due("8: A 2", x.with(A, 2), 1);
        check.due("8: A 0", x.with(A, 0), 1);
        check.due("8: A 7", x.with(A, 7), 0);
        check.due("8: B 3", x.with(B, 3), 2);
        check.due("8: B 7", x.with(B, 7), 1);
        check.due("8: B 0", x.with(B, 0), 0);
        for (int value : NOT_NUMBERS) {
            check.due("8: value " + value, x.with(A, value), 0);
        }
        check.due("8: C doesn't stand", x.with(C, 0), -1);
        check.due("8: D doesn't stand, wrong value", x.with(D, 9), -1);
        x.pattern(C, D, 7);
        for (int variable : NOT_VARIABLES) {
            check.due("8: variable " + variable, x.with(variable, variable), -1);
            check.due("8: variable " + variable, x.with(variable, 0), -1);
        }
        x.clear();
        x.pattern(A, 5, B);
        check.due("8: no solution", x.with(A, 1), 0);
    }

    private static void promise9Values() {
        TripleJoin x = withFacts(1, 0, 2, 1, 0, 3, 2, 0, 3, 0, 0, 7, 7, 0, 7);
        x.pattern(A, 0, B);
        check.due("9: A", x.values(A), 4);
        check.due("9: B", x.values(B), 3);
        check.due("9: C doesn't stand", x.values(C), -1);
        check.due("9: D doesn't stand", x.values(D), -1);
        x.pattern(C, 0, D);
        for (int variable : NOT_VARIABLES) {
            check.due("9: variable " + variable, x.values(variable), -1);
        }
        check.due("9: A among more solutions", x.values(A), 4);
        check.due("9: D among more solutions", x.values(D), 3);
        x.pattern(6, 6, 6);
        check.due("9: no solution", x.values(A), 0);
    }

    private static void promise10Count() {
        TripleJoin x = withFacts(1, 2, 3, 1, 2, 4, 1, 5, 3, 6, 2, 3, 0, 0, 0, 7, 7, 7);
        check.due("10: one fact", x.count(1, 2, 3), 1);
        check.due("10: not held", x.count(3, 2, 1), 0);
        check.due("10: s", x.count(1, ANY, ANY), 3);
        check.due("10: p", x.count(ANY, 2, ANY), 3);
        check.due("10: o", x.count(ANY, ANY, 3), 3);
        check.due("10: s p", x.count(1, 2, ANY), 2);
        check.due("10: s o", x.count(1, ANY, 3), 2);
        check.due("10: p o", x.count(ANY, 2, 3), 2);
        check.due("10: edge 0", x.count(0, ANY, ANY), 1);
        check.due("10: edge 7", x.count(ANY, ANY, 7), 1);
        for (int n : NOT_NUMBERS) {
            check.due("10: all " + n, x.count(n, n, n), 6);
            check.due("10: s " + n, x.count(n, 2, 3), 2);
            check.due("10: p " + n, x.count(1, n, 3), 2);
            check.due("10: o " + n, x.count(1, 2, n), 2);
        }
        check.due("10: a variable is no variable here", x.count(A, A, A), 6);
        x.pattern(0, 0, 0);
        check.due("10: the question doesn't matter", x.count(ANY, ANY, ANY), 6);
    }

    private static void promise11Has() {
        TripleJoin x = withFacts(0, 0, 0, 1, 2, 3, 7, 7, 7);
        check.due("11: held", x.has(1, 2, 3), 1);
        check.due("11: lowest", x.has(0, 0, 0), 1);
        check.due("11: highest", x.has(7, 7, 7), 1);
        check.due("11: other order", x.has(3, 2, 1), 0);
        check.due("11: not held", x.has(1, 2, 4), 0);
        for (int n : NOT_NUMBERS) {
            check.due("11: s " + n, x.has(n, 0, 0), 0);
            check.due("11: p " + n, x.has(0, n, 0), 0);
            check.due("11: o " + n, x.has(0, 0, n), 0);
            check.due("11: all " + n, x.has(n, n, n), 0);
        }
        check.due("11: 0 8 is not 1 0", withFacts(0, 1, 0).has(0, 0, 8), 0);
        x.remove(1, 2, 3);
        check.due("11: removed", x.has(1, 2, 3), 0);
    }

    private static void promise12RefusedChangesNothing() {
        TripleJoin x = full();
        x.pattern(A, 0, B);
        x.pattern(B, 0, B);
        x.pattern(A, 1, 1);
        x.pattern(0, 0, 0);
        String before = answers(x);
        check.due("12: add when full", x.add(7, 7, 7), -1);
        check.due("12: add of a held one", x.add(0, 0, 0), -1);
        check.due("12: add of a wrong one", x.add(8, 0, 0), -1);
        check.due("12: remove of one not held", x.remove(7, 7, 7), -1);
        check.due("12: remove of a wrong one", x.remove(0, -1, 0), -1);
        check.due("12: a fifth pattern", x.pattern(C, D, 0), -1);
        check.due("12: a wrong pattern", x.pattern(C, D, 8), -1);
        check.due("12: solution", x.solution(-1, A), -1);
        check.due("12: with", x.with(C, 0), -1);
        check.due("12: values", x.values(D), -1);
        check.isTrue("12: refused calls change nothing", answers(x).equals(before));
        check.due("12: then remove", x.remove(0, 0, 0), 47);
    }

    /** What the questions that change nothing tell of the object, put together. */
    private static String answers(TripleJoin x) {
        StringBuilder all = new StringBuilder();
        for (int i = 0; i < 48; i++) {
            all.append(x.has(i / 8, i % 8, i % 3));
        }
        all.append(' ').append(x.has(7, 7, 7)).append(' ').append(x.count(ANY, ANY, ANY));
        all.append(' ').append(x.solutions());
        for (int variable = A; variable >= D; variable--) {
            all.append(' ').append(x.values(variable)).append(' ').append(x.with(variable, 0));
            for (int k = 0; k < 8; k++) {
                all.append(' ').append(x.solution(k, variable));
            }
        }
        return all.toString();
    }
}
