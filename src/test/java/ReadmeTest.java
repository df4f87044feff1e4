/** The example of README.md, call for call, and the notes under its table. */
public final class ReadmeTest extends TestBase {
    public static void main(String[] args) {
        example();
        notes();
        check.end();
    }

    private static void example() {
        TripleJoin x = new TripleJoin();
        check.due("add(1, 0, 2)", x.add(1, 0, 2), 1);
        check.due("add(2, 0, 3)", x.add(2, 0, 3), 2);
        check.due("add(2, 0, 4)", x.add(2, 0, 4), 3);
        check.due("add(2, 0, 4) again", x.add(2, 0, 4), -1);
        check.due("pattern(-1, 0, -2)", x.pattern(-1, 0, -2), 1);
        check.due("pattern(-2, 0, -3)", x.pattern(-2, 0, -3), 2);
        check.due("solutions()", x.solutions(), 2);
        check.due("solution(0, -1)", x.solution(0, -1), 1);
        check.due("solution(1, -3)", x.solution(1, -3), 4);
        check.due("solution(2, -3)", x.solution(2, -3), -1);
        check.due("with(-2, 2)", x.with(-2, 2), 2);
        check.due("with(-2, 8)", x.with(-2, 8), 0);
        check.due("with(-4, 2)", x.with(-4, 2), -1);
        check.due("values(-1)", x.values(-1), 1);
        check.due("values(-3)", x.values(-3), 2);
        check.due("count(2, 0, -1)", x.count(2, 0, -1), 2);
        check.due("has(1, 0, 2)", x.has(1, 0, 2), 1);
        x.clear();
        check.due("solutions() after clear", x.solutions(), 1);
        check.due("remove(1, 0, 2)", x.remove(1, 0, 2), 2);
        check.due("has(1, 0, 2) after remove", x.has(1, 0, 2), 0);
    }

    private static void notes() {
        TripleJoin x = withFacts(1, 2, 3);
        x.pattern(1, 2, 3);
        check.due("a pattern that is a held fact", x.solutions(), 1);
        x.pattern(3, 2, 1);
        check.due("and one that is not", x.solutions(), 0);
        x.clear();
        x.pattern(A, 2, 3);
        check.due("a value that is no number", x.with(A, -1), 0);
    }
}
