/** One call with its arguments, that can be made on a TripleJoin and on a Model. */
record Call(String name, int a, int b, int c) {
    Call(String name, int a, int b) {
        this(name, a, b, 0);
    }

    Call(String name, int a) {
        this(name, a, 0, 0);
    }

    Call(String name) {
        this(name, 0, 0, 0);
    }

    int on(TripleJoin x) {
        return switch (name) {
            case "add" -> x.add(a, b, c);
            case "remove" -> x.remove(a, b, c);
            case "pattern" -> x.pattern(a, b, c);
            case "solutions" -> x.solutions();
            case "solution" -> x.solution(a, b);
            case "with" -> x.with(a, b);
            case "values" -> x.values(a);
            case "count" -> x.count(a, b, c);
            case "has" -> x.has(a, b, c);
            case "clear" -> {
                x.clear();
                yield 0;
            }
            default -> throw new IllegalArgumentException(name);
        };
    }

    int on(Model model) {
        return switch (name) {
            case "add" -> model.add(a, b, c);
            case "remove" -> model.remove(a, b, c);
            case "pattern" -> model.pattern(a, b, c);
            case "solutions" -> model.solutions();
            case "solution" -> model.solution(a, b);
            case "with" -> model.with(a, b);
            case "values" -> model.values(a);
            case "count" -> model.count(a, b, c);
            case "has" -> model.has(a, b, c);
            case "clear" -> {
                model.clear();
                yield 0;
            }
            default -> throw new IllegalArgumentException(name);
        };
    }

    /** Whether the call only asks, so that no answer of it may come with a change. */
    boolean onlyAsks() {
        return switch (name) {
            case "add", "remove", "pattern", "clear" -> false;
            default -> true;
        };
    }

    @Override
    public String toString() {
        return switch (name) {
            case "solutions", "clear" -> name + "()";
            case "values" -> name + "(" + a + ")";
            case "solution", "with" -> name + "(" + a + ", " + b + ")";
            default -> name + "(" + a + ", " + b + ", " + c + ")";
        };
    }
}
