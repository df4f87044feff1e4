/** Each sentence of the document that names a boundary of the question, in its own method. */
public final class QuestionBoundsTest extends TestBase {
    public static void main(String[] args) {
        newObjectHasNoPattern();
        patternTakesEveryNumber();
        patternTakesEveryVariable();
        patternRefusesWhatIsNoPlace();
        patternTakesTheFourthAndNoMore();
        patternWhenFullAndWrongInAnotherWay();
        clearOfEachLength();
        clearLeavesTheFacts();
        check.end();
    }

    private static void noVariableStands(String at, TripleJoin x) {
        for (int variable = A; variable >= D; variable--) {
            check.due(at + ": solution of " + variable, x.solution(0, variable), -1);
            check.due(at + ": with " + variable, x.with(variable, 0), -1);
            check.due(at + ": values of " + variable, x.values(variable), -1);
        }
    }

    private static void isEmpty(String at, TripleJoin x) {
        check.due(at + ": solutions", x.solutions(), 1);
        noVariableStands(at, x);
    }

    // Promise 1: "No fact, no pattern." Terms: "empty at the start".
    private static void newObjectHasNoPattern() {
        TripleJoin x = new TripleJoin();
        isEmpty("1: new", x);
        for (int i = 1; i <= 4; i++) {
            check.due("1: room for pattern " + i, x.pattern(0, 0, 0), i);
        }
    }

    // Terms: "each place is a number from 0 to 7 or one of the VARIABLES".
    private static void patternTakesEveryNumber() {
        for (int n = 0; n <= 7; n++) {
            int other = n == 3 ? 4 : 3;
            numberInAPlace(n, other, other);
            numberInAPlace(other, n, other);
            numberInAPlace(other, other, n);
        }
    }

    private static void numberInAPlace(int s, int p, int o) {
        String at = "4: pattern(" + s + ", " + p + ", " + o + ")";
        TripleJoin x = new TripleJoin();
        for (int i = 0; i < 24; i++) {
            // The facts that differ from the pattern in one place.
            int n = i % 8;
            int[] fact = {i / 8 == 0 ? n : s, i / 8 == 1 ? n : p, i / 8 == 2 ? n : o};
            if (fact[0] != s || fact[1] != p || fact[2] != o) {
                x.add(fact[0], fact[1], fact[2]);
            }
        }
        check.due(at, x.pattern(s, p, o), 1);
        noVariableStands(at, x);
        check.due(at + " among its neighbours", x.solutions(), 0);
        x.add(s, p, o);
        check.due(at + " and its fact", x.solutions(), 1);
        noVariableStands(at, x);
    }

    private static void patternTakesEveryVariable() {
        for (int variable = A; variable >= D; variable--) {
            variableInAPlace(variable, variable, 3, 3);
            variableInAPlace(variable, 3, variable, 3);
            variableInAPlace(variable, 3, 3, variable);
        }
    }

    private static void variableInAPlace(int variable, int s, int p, int o) {
        String at = "4: pattern(" + s + ", " + p + ", " + o + ")";
        TripleJoin x = new TripleJoin();
        int[] numbers = {7, 0, 5};
        for (int n : numbers) {
            x.add(s < 0 ? n : s, p < 0 ? n : p, o < 0 ? n : o);
        }
        x.add(1, 2, 4);
        check.due(at, x.pattern(s, p, o), 1);
        check.due(at + ": solutions", x.solutions(), 3);
        check.due(at + ": first", x.solution(0, variable), 0);
        check.due(at + ": second", x.solution(1, variable), 5);
        check.due(at + ": third", x.solution(2, variable), 7);
        for (int other = A; other >= D; other--) {
            check.due(at + ": values of " + other, x.values(other), other == variable ? 3 : -1);
        }
    }

    // Promise 4: "-1, and changes nothing, if a place is not from -4 to 7".
    private static void patternRefusesWhatIsNoPlace() {
        for (int n : NOT_PLACES) {
            patternRefuses(n, B, C);
            patternRefuses(A, n, C);
            patternRefuses(A, B, n);
            patternRefuses(n, n, n);
            patternRefuses(n, 0, 0);
            patternRefuses(0, n, 0);
            patternRefuses(0, 0, n);
        }
    }

    private static void patternRefuses(int s, int p, int o) {
        String at = "4: pattern(" + s + ", " + p + ", " + o + ")";
        TripleJoin x = withFacts(0, 0, 0, 1, 0, 0);
        check.due(at, x.pattern(s, p, o), -1);
        isEmpty(at, x);
        check.due(at + ", then D", x.pattern(D, 0, 0), 1);
        check.due(at + " beside D", x.pattern(s, p, o), -1);
        check.due(at + " beside D: solutions", x.solutions(), 2);
        check.due(at + " beside D: D", x.solution(1, D), 1);
        for (int variable = A; variable > D; variable--) {
            check.due(at + " beside D: " + variable, x.values(variable), -1);
        }
        check.due(at + ", then the second", x.pattern(0, 0, 0), 2);
    }

    // Promise 4: "-1 [...] if [...] there are 4 patterns"; Terms: "at most 4 PATTERNS".
    private static void patternTakesTheFourthAndNoMore() {
        TripleJoin x = withFacts(0, 1, 0, 1, 1, 0, 2, 1, 0, 0, 2, 0, 1, 2, 0, 0, 3, 0);
        check.due("4: the first", x.pattern(A, 1, 0), 1);
        check.due("4: asked of the first", x.solutions(), 3);
        check.due("4: the second", x.pattern(A, 2, 0), 2);
        check.due("4: asked of two", x.solutions(), 2);
        check.due("4: the third", x.pattern(A, B, 0), 3);
        check.due("4: asked of three", x.solutions(), 5);
        check.due("4: the fourth", x.pattern(A, 3, 0), 4);
        check.due("4: asked of four", x.solutions(), 3);
        check.due("4: a fifth that no fact fits", x.pattern(7, 7, 7), -1);
        check.due("4: a fifth that facts fit", x.pattern(0, 1, 0), -1);
        check.due("4: a fifth with new variables", x.pattern(C, D, 0), -1);
        check.due("4: the fifth is not asked", x.solutions(), 3);
        check.due("4: C doesn't stand", x.values(C), -1);
        check.due("4: D doesn't stand", x.with(D, 1), -1);
        check.due("4: B of the last", x.solution(2, B), 3);
        check.due("4: still full", x.pattern(A, 1, 0), -1);
        x.remove(0, 1, 0);
        check.due("4: the first is still asked", x.solutions(), 0);
    }

    private static void patternWhenFullAndWrongInAnotherWay() {
        TripleJoin x = withFacts(0, 0, 0);
        for (int i = 1; i <= 4; i++) {
            x.pattern(0, 0, 0);
        }
        for (int n : NOT_PLACES) {
            check.due("4: full, and s " + n, x.pattern(n, A, B), -1);
            check.due("4: full, and o " + n, x.pattern(A, B, n), -1);
        }
        isEmpty("4: full of held facts, so like empty", x);
    }

    // Promise 5: "Makes the question empty."
    private static void clearOfEachLength() {
        for (int patterns = 0; patterns <= 4; patterns++) {
            String at = "5: clear of " + patterns;
            TripleJoin x = withFacts(0, 0, 0, 0, 0, 7);
            for (int i = 0; i < patterns; i++) {
                x.pattern(-1 - i, 5, -4 + i);
            }
            check.due(at + ": before", x.solutions(), patterns == 0 ? 1 : 0);
            x.clear();
            isEmpty(at, x);
            x.clear();
            isEmpty(at + " twice", x);
            check.due(at + ": then the first", x.pattern(0, 0, C), 1);
            check.due(at + ": only the new one is asked", x.solutions(), 2);
            check.due(at + ": A stands no longer", x.values(A), -1);
            check.due(at + ": D stands no longer", x.values(D), -1);
            for (int i = 2; i <= 4; i++) {
                check.due(at + ": room for pattern " + i, x.pattern(0, 0, 0), i);
            }
            check.due(at + ": then full", x.pattern(0, 0, 0), -1);
        }
    }

    private static void clearLeavesTheFacts() {
        TripleJoin x = full();
        x.pattern(A, B, C);
        x.clear();
        check.due("5: facts", x.count(ANY, ANY, ANY), 48);
        check.due("5: still full", x.add(7, 7, 7), -1);
        check.due("5: a fact", x.has(5, 7, 2), 1);
        check.due("5: remove", x.remove(5, 7, 2), 47);
    }
}
