/** Each sentence of the document that names a boundary of the solutions, in its own method. */
public final class SolutionBoundsTest extends TestBase {
    public static void main(String[] args) {
        variableInSeveralPlacesOfOnePattern();
        variableInSeveralPatterns();
        variableInAllTwelvePlaces();
        everyPatternMustBeHeld();
        noPattern();
        noVariable();
        aVariableButNoFact();
        numberOfSolutions();
        orderForEverySetOfVariables();
        orderByFarNumbersOfA();
        solutionsAreCountedFromZero();
        solutionRefusesWhatIsNoVariable();
        solutionRefusesAVariableThatDoesNotStand();
        solutionWhenThereIsNone();
        withOfValuesAtTheEnds();
        withOfValuesThatAreNoNumbers();
        withRefusesWhatIsNoVariable();
        withRefusesAVariableThatDoesNotStand();
        valuesFromNoneToEight();
        valuesRefusesWhatIsNoVariable();
        valuesRefusesAVariableThatDoesNotStand();
        aNumberThatStandsIsNoVariable();
        check.end();
    }

    /** A question whose solutions are all choices of 0, 4 and 7 for the variables. */
    private static TripleJoin withChoices(int... variables) {
        TripleJoin x = withFacts(7, 1, 1, 0, 1, 1, 4, 1, 1);
        for (int variable : variables) {
            x.pattern(variable, 1, 1);
        }
        return x;
    }

    // Terms: "A variable may stand in several places, also of one pattern."
    private static void variableInSeveralPlacesOfOnePattern() {
        for (int v = A; v >= D; v--) {
            alike(v, v, v, 5);
            alike(v, v, 0, 5);
            alike(v, 0, v, 5);
            alike(0, v, v, 5);
        }
    }

    private static void alike(int s, int p, int o, int number) {
        String at = "6: (" + s + ", " + p + ", " + o + ")";
        int variable = Math.min(s, Math.min(p, o));
        // Beside the one that fits: facts in which the places of the variable differ.
        TripleJoin x = withFacts(5, 6, 0, 6, 5, 0, 5, 0, 6, 6, 0, 5, 0, 5, 6, 0, 6, 5, 5, 5, 6, 6, 5, 5, 5, 6, 5);
        x.pattern(s, p, o);
        check.due(at + ": none is alike", x.solutions(), 0);
        check.due(at + ": it stands", x.values(variable), 0);
        x.add(s < 0 ? number : s, p < 0 ? number : p, o < 0 ? number : o);
        check.due(at + ": one is alike", x.solutions(), 1);
        check.due(at + ": its number", x.solution(0, variable), number);
        check.due(at + ": with", x.with(variable, number), 1);
        check.due(at + ": values", x.values(variable), 1);
    }

    private static void variableInSeveralPatterns() {
        for (int v = A; v >= D; v--) {
            TripleJoin x = withFacts(3, 1, 1, 4, 1, 1, 1, 4, 1, 1, 5, 1, 1, 1, 4, 1, 1, 3);
            x.pattern(v, 1, 1);
            check.due("6: " + v + " in one", x.solutions(), 2);
            x.pattern(1, v, 1);
            check.due("6: " + v + " in two", x.solutions(), 1);
            x.pattern(1, 1, v);
            check.due("6: " + v + " in three", x.solutions(), 1);
            check.due("6: " + v + " is the number of all", x.solution(0, v), 4);
            x.remove(1, 1, 4);
            check.due("6: " + v + " has no number for all", x.solutions(), 0);
        }
    }

    private static void variableInAllTwelvePlaces() {
        for (int v = A; v >= D; v--) {
            TripleJoin x = withFacts(0, 0, 0, 7, 7, 7, 0, 7, 0, 1, 1, 0);
            for (int i = 0; i < 4; i++) {
                x.pattern(v, v, v);
            }
            check.due("6: twelve times " + v, x.solutions(), 2);
            check.due("6: twelve times " + v + ", first", x.solution(0, v), 0);
            check.due("6: twelve times " + v + ", last", x.solution(1, v), 7);
        }
    }

    // Terms: "such that every pattern, with the numbers put in [...], is a fact that is held."
    private static void everyPatternMustBeHeld() {
        for (int missing = 0; missing < 4; missing++) {
            TripleJoin x = new TripleJoin();
            for (int i = 0; i < 4; i++) {
                x.add(6, i, 2);
                x.pattern(A, i, B);
            }
            check.due("6: all four held", x.solutions(), 1);
            x.remove(6, missing, 2);
            check.due("6: all but pattern " + missing, x.solutions(), 0);
            check.due("7: all but pattern " + missing, x.solution(0, A), -1);
            x.add(6, missing, 3);
            check.due("6: another B in pattern " + missing, x.solutions(), 0);
            x.add(6, missing, 2);
            check.due("6: held again", x.solutions(), 1);
        }
    }

    // Terms: "(If no variable stands in the question, there is one solution [...] also if
    // there is no pattern, else none.)"
    private static void noPattern() {
        check.due("6: no pattern, no fact", new TripleJoin().solutions(), 1);
        check.due("6: no pattern, a fact", withFacts(1, 1, 1).solutions(), 1);
        TripleJoin x = full();
        check.due("6: no pattern, 48 facts", x.solutions(), 1);
        check.due("7: no pattern, no variable to give", x.solution(0, A), -1);
        check.due("8: no pattern, no variable to give", x.with(A, 0), -1);
        check.due("9: no pattern, no variable to give", x.values(A), -1);
    }

    // Terms: "one solution if all patterns are held facts, [...] else none."
    private static void noVariable() {
        int[][] facts = {{0, 0, 0}, {7, 7, 7}, {0, 7, 0}, {7, 0, 7}};
        for (int patterns = 1; patterns <= 4; patterns++) {
            TripleJoin x = withFacts(0, 0, 0, 7, 7, 7, 0, 7, 0, 7, 0, 7);
            for (int i = 0; i < patterns; i++) {
                x.pattern(facts[i][0], facts[i][1], facts[i][2]);
            }
            for (int i = 0; i < patterns; i++) {
                check.due("6: all held, " + patterns, x.solutions(), 1);
                x.remove(facts[i][0], facts[i][1], facts[i][2]);
                check.due("6: one of " + patterns + " not held", x.solutions(), 0);
                x.add(facts[i][0], facts[i][1], facts[i][2]);
            }
            for (int variable = A; variable >= D; variable--) {
                check.due("7: numbers only", x.solution(0, variable), -1);
                check.due("8: numbers only", x.with(variable, 0), -1);
                check.due("9: numbers only", x.values(variable), -1);
            }
        }
        TripleJoin none = new TripleJoin();
        none.pattern(0, 0, 0);
        check.due("6: numbers only, no fact", none.solutions(), 0);
    }

    private static void aVariableButNoFact() {
        for (int variable = A; variable >= D; variable--) {
            TripleJoin x = new TripleJoin();
            x.pattern(variable, variable, variable);
            check.due("6: no fact", x.solutions(), 0);
            check.due("7: no fact", x.solution(0, variable), -1);
            check.due("8: no fact", x.with(variable, 0), 0);
            check.due("9: no fact", x.values(variable), 0);
        }
    }

    // Promise 6: "How many solutions there are": from none to every choice.
    private static void numberOfSolutions() {
        TripleJoin x = new TripleJoin();
        for (int variable = A; variable >= D; variable--) {
            x.pattern(variable, 0, 0);
        }
        for (int n = 0; n <= 8; n++) {
            check.due("6: choices of " + n, x.solutions(), n * n * n * n);
            x.add(n, 0, 0);
        }
        TripleJoin y = full();
        y.pattern(A, B, C);
        check.due("6: every fact of 48", y.solutions(), 48);
        y.remove(0, 0, 0);
        check.due("6: every fact of 47", y.solutions(), 47);
    }

    // Terms: "ordered by the number of A, then of B, then of C, then of D (of those that
    // stand in the question), and counted from 0."
    private static void orderForEverySetOfVariables() {
        int[] numbers = {0, 4, 7};
        for (int set = 1; set < 16; set++) {
            int[] backwards = new int[Integer.bitCount(set)];
            int size = 0;
            for (int variable = D; variable <= A; variable++) {
                if ((set >> (-1 - variable) & 1) != 0) {
                    backwards[size++] = variable;
                }
            }
            // The last variables come first into the question: their place in it is no order.
            TripleJoin x = withChoices(backwards);
            int all = (int) Math.pow(3, size);
            check.due("6: set " + set, x.solutions(), all);
            for (int k = 0; k < all; k++) {
                int digits = k;
                for (int variable : backwards) {
                    String at = "7: set " + set + ", " + variable + " of " + k;
                    check.due(at, x.solution(k, variable), numbers[digits % 3]);
                    digits /= 3;
                }
            }
            check.due("7: set " + set + ", beyond", x.solution(all, backwards[0]), -1);
        }
    }

    private static void orderByFarNumbersOfA() {
        TripleJoin x = withFacts(0, 7, 7, 7, 0, 0);
        x.pattern(A, B, C);
        check.due("7: the small A is first", x.solution(0, A), 0);
        check.due("7: though its B is large", x.solution(0, B), 7);
        check.due("7: the large A is last", x.solution(1, A), 7);
        x.clear();
        x.pattern(C, B, A);
        check.due("7: turned round, the small A", x.solution(0, A), 0);
        check.due("7: turned round, its C", x.solution(0, C), 7);
        x.clear();
        x.pattern(B, C, D);
        check.due("7: without A, the small B", x.solution(0, B), 0);
        check.due("7: without A, its D", x.solution(0, D), 7);
    }

    // Promise 7: "-1 if there is no such solution".
    private static void solutionsAreCountedFromZero() {
        TripleJoin x = withChoices(B);
        check.due("7: before the first", x.solution(-1, B), -1);
        check.due("7: the first", x.solution(0, B), 0);
        check.due("7: the middle", x.solution(1, B), 4);
        check.due("7: the last", x.solution(2, B), 7);
        check.due("7: after the last", x.solution(3, B), -1);
        int[] far = {-2, 4, 8, 256, 4095, 4096, 1 << 16, MIN, MIN + 1, MIN + 2, MAX - 1, MAX};
        for (int k : far) {
            check.due("7: k " + k, x.solution(k, B), -1);
        }
    }

    // Promises 7, 8 and 9: "-1 if [...] variable is not from -4 to -1".
    private static void solutionRefusesWhatIsNoVariable() {
        TripleJoin x = withChoices(A, B, C, D);
        for (int n : NOT_VARIABLES) {
            check.due("7: variable " + n, x.solution(0, n), -1);
            check.due("7: variable " + n + ", last", x.solution(80, n), -1);
            check.due("7: variable " + n + ", wrong k", x.solution(-1, n), -1);
        }
        check.due("7: variable -1 is taken", x.solution(80, -1), 7);
        check.due("7: variable -4 is taken", x.solution(80, -4), 7);
    }

    // Promises 7, 8 and 9: "or doesn't stand in the question."
    private static void solutionRefusesAVariableThatDoesNotStand() {
        for (int stands = A; stands >= D; stands--) {
            TripleJoin x = withChoices(stands);
            for (int v = A; v >= D; v--) {
                check.due("7: " + v + " beside " + stands, x.solution(1, v), v == stands ? 4 : -1);
            }
            x.clear();
            check.due("7: " + stands + " after clear", x.solution(0, stands), -1);
        }
    }

    private static void solutionWhenThereIsNone() {
        TripleJoin x = withChoices(A);
        x.pattern(2, 2, 2);
        check.due("7: none", x.solution(0, A), -1);
        check.due("7: none, before the first", x.solution(-1, A), -1);
        x.add(2, 2, 2);
        check.due("7: found when the fact is held", x.solution(0, A), 0);
    }

    // Promise 8: "How many solutions give the variable the number value".
    private static void withOfValuesAtTheEnds() {
        TripleJoin x = withChoices(A, B, C, D);
        for (int variable = A; variable >= D; variable--) {
            for (int n = 0; n <= 7; n++) {
                int due = n == 0 || n == 4 || n == 7 ? 27 : 0;
                check.due("8: " + variable + " with " + n, x.with(variable, n), due);
            }
        }
    }

    // No solution gives a value that is not from 0 to 7, and promise 8 refuses none.
    private static void withOfValuesThatAreNoNumbers() {
        TripleJoin x = withChoices(A, B, C, D);
        for (int n : NOT_NUMBERS) {
            for (int variable = A; variable >= D; variable--) {
                check.due("8: " + variable + " with " + n, x.with(variable, n), 0);
            }
        }
    }

    private static void withRefusesWhatIsNoVariable() {
        TripleJoin x = withChoices(A, B, C, D);
        for (int n : NOT_VARIABLES) {
            check.due("8: variable " + n, x.with(n, 0), -1);
            check.due("8: variable " + n + ", value 7", x.with(n, 7), -1);
            check.due("8: variable " + n + ", value alike", x.with(n, n), -1);
            check.due("8: variable " + n + ", wrong value", x.with(n, 8), -1);
        }
        check.due("8: variable -1 is taken", x.with(-1, 0), 27);
        check.due("8: variable -4 is taken", x.with(-4, 0), 27);
    }

    private static void withRefusesAVariableThatDoesNotStand() {
        for (int stands = A; stands >= D; stands--) {
            TripleJoin x = withChoices(stands);
            for (int v = A; v >= D; v--) {
                check.due("8: " + v + " beside " + stands, x.with(v, 0), v == stands ? 1 : -1);
                check.due("8: wrong value of " + v, x.with(v, 8), v == stands ? 0 : -1);
            }
            x.clear();
            check.due("8: " + stands + " after clear", x.with(stands, 0), -1);
        }
    }

    // Promise 9: "How many different numbers the solutions give the variable".
    private static void valuesFromNoneToEight() {
        for (int variable = A; variable >= D; variable--) {
            int other = variable == D ? A : variable - 1;
            TripleJoin x = new TripleJoin();
            x.pattern(variable, 1, other);
            for (int n = 0; n <= 7; n++) {
                check.due("9: " + n + " numbers", x.values(variable), n);
                x.add(7 - n, 1, 7);
                x.add(7 - n, 1, 0);
            }
            check.due("9: all numbers", x.values(variable), 8);
            check.due("9: each number once", x.values(other), 2);
        }
    }

    private static void valuesRefusesWhatIsNoVariable() {
        TripleJoin x = withChoices(A, B, C, D);
        for (int n : NOT_VARIABLES) {
            check.due("9: variable " + n, x.values(n), -1);
        }
        check.due("9: variable -1 is taken", x.values(-1), 3);
        check.due("9: variable -4 is taken", x.values(-4), 3);
    }

    private static void valuesRefusesAVariableThatDoesNotStand() {
        for (int stands = A; stands >= D; stands--) {
            TripleJoin x = withChoices(stands);
            for (int v = A; v >= D; v--) {
                check.due("9: " + v + " beside " + stands, x.values(v), v == stands ? 3 : -1);
            }
            x.clear();
            check.due("9: " + stands + " after clear", x.values(stands), -1);
        }
    }

    // The numbers of the patterns stand in the question too, but are not from -4 to -1.
    private static void aNumberThatStandsIsNoVariable() {
        TripleJoin x = withFacts(0, 0, 0, 7, 7, 7, 0, 1, 7);
        x.pattern(A, 0, B);
        x.pattern(C, 7, D);
        x.pattern(0, 1, 7);
        check.due("6: one", x.solutions(), 1);
        for (int n = 0; n <= 8; n++) {
            check.due("7: variable " + n, x.solution(0, n), -1);
            check.due("8: variable " + n, x.with(n, 0), -1);
            check.due("8: variable " + n + ", value alike", x.with(n, n), -1);
            check.due("9: variable " + n, x.values(n), -1);
        }
    }
}
