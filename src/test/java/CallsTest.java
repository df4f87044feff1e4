/**
 * "An object is used for at most 512 calls after it has been made; what later calls
 * answer is free": the 512th answers as promised, and no later one throws (rule 7).
 */
public final class CallsTest extends TestBase {
    private static final int CALLS = 512;

    public static void main(String[] args) {
        addAndRemoveByTurns();
        refusedAdds();
        refusedRemoves();
        refusedPatterns();
        patternsAndClears();
        everyQuestionAtItsLargest();
        laterCallsThrowNothing();
        check.end();
    }

    private static void addAndRemoveByTurns() {
        TripleJoin x = new TripleJoin();
        for (int call = 1; call <= CALLS; call += 2) {
            check.due("call " + call + ": add", x.add(call % 8, 0, call / 64), 1);
            check.due("call " + (call + 1) + ": remove", x.remove(call % 8, 0, call / 64), 0);
        }
    }

    private static void refusedAdds() {
        TripleJoin x = full();
        for (int call = 49; call < CALLS; call++) {
            check.due("call " + call + ": add when full", x.add(7, 7, call % 8), -1);
        }
        check.due("call 512: count", x.count(ANY, ANY, ANY), 48);
    }

    private static void refusedRemoves() {
        TripleJoin x = withFacts(0, 0, 0);
        for (int call = 2; call < CALLS; call++) {
            check.due("call " + call + ": remove", x.remove(7, 7, call % 8), -1);
        }
        check.due("call 512: add", x.add(7, 7, 7), 2);
    }

    private static void refusedPatterns() {
        TripleJoin x = withFacts(0, 0, 0);
        for (int call = 2; call < CALLS; call++) {
            check.due("call " + call + ": pattern", x.pattern(0, 0, 0), call <= 5 ? call - 1 : -1);
        }
        check.due("call 512: solutions", x.solutions(), 1);
    }

    private static void patternsAndClears() {
        TripleJoin x = withFacts(0, 0, 0, 7, 0, 0);
        for (int call = 3; call < CALLS - 1; call += 2) {
            check.due("call " + call + ": pattern", x.pattern(-1 - call / 2 % 4, 0, 0), 1);
            x.clear();
        }
        check.due("call 511: pattern", x.pattern(C, 0, 0), 1);
        check.due("call 512: solution", x.solution(1, C), 7);
    }

    private static void everyQuestionAtItsLargest() {
        TripleJoin x = withAllChoices();
        for (int call = 13; call <= CALLS; call += 4) {
            check.due("call " + call + ": solutions", x.solutions(), 4096);
            check.due("call " + (call + 1) + ": values", x.values(D), 8);
            check.due("call " + (call + 2) + ": with", x.with(C, 7), 512);
            check.due("call " + (call + 3) + ": solution", x.solution(4095, A), 7);
        }
    }

    private static void laterCallsThrowNothing() {
        TripleJoin x = withAllChoices();
        for (int call = 13; call <= 4 * CALLS; call += 5) {
            x.add(call % 8, call / 8 % 8, call / 64 % 8);
            x.pattern(A, call % 8, B);
            x.solution(call, D);
            x.remove(call % 7, call / 8 % 8, call / 64 % 8);
            x.clear();
        }
    }
}
