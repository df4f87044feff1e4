import java.util.ArrayList;
import java.util.HashSet;
import java.util.List;
import java.util.TreeMap;

/**
 * The document told a second time, by joining the facts pattern after pattern, so
 * that a mistake of TripleJoin, which tries all choices, is not made here as well.
 */
final class Model {
    private final List<List<Integer>> facts = new ArrayList<>();
    private final List<List<Integer>> patterns = new ArrayList<>();

    int add(int s, int p, int o) {
        List<Integer> fact = List.of(s, p, o);
        for (int n : fact) {
            if (n < 0 || n > 7) {
                return -1;
            }
        }
        if (facts.contains(fact) || facts.size() == 48) {
            return -1;
        }
        facts.add(fact);
        return facts.size();
    }

    int remove(int s, int p, int o) {
        return facts.remove(List.of(s, p, o)) ? facts.size() : -1;
    }

    int pattern(int s, int p, int o) {
        List<Integer> pattern = List.of(s, p, o);
        for (int n : pattern) {
            if (n < -4 || n > 7) {
                return -1;
            }
        }
        if (patterns.size() == 4) {
            return -1;
        }
        patterns.add(pattern);
        return patterns.size();
    }

    void clear() {
        patterns.clear();
    }

    int solutions() {
        return solved().size();
    }

    int solution(int k, int variable) {
        List<TreeMap<Integer, Integer>> all = solved();
        if (k < 0 || k >= all.size() || !stands(variable)) {
            return -1;
        }
        return all.get(k).get(variable);
    }

    int with(int variable, int value) {
        if (!stands(variable)) {
            return -1;
        }
        return (int) solved().stream().filter(one -> one.get(variable) == value).count();
    }

    int values(int variable) {
        if (!stands(variable)) {
            return -1;
        }
        return (int) solved().stream().map(one -> one.get(variable)).distinct().count();
    }

    int count(int s, int p, int o) {
        List<Integer> places = List.of(s, p, o);
        int found = 0;
        for (List<Integer> fact : facts) {
            boolean agrees = true;
            for (int i = 0; i < 3; i++) {
                int place = places.get(i);
                agrees &= place < 0 || place > 7 || place == fact.get(i);
            }
            found += agrees ? 1 : 0;
        }
        return found;
    }

    int has(int s, int p, int o) {
        return facts.contains(List.of(s, p, o)) ? 1 : 0;
    }

    private boolean stands(int variable) {
        return variable < 0 && patterns.stream().anyMatch(pattern -> pattern.contains(variable));
    }

    private List<TreeMap<Integer, Integer>> solved() {
        List<TreeMap<Integer, Integer>> rows = new ArrayList<>();
        rows.add(new TreeMap<>());
        for (List<Integer> pattern : patterns) {
            HashSet<TreeMap<Integer, Integer>> next = new HashSet<>();
            for (TreeMap<Integer, Integer> row : rows) {
                for (List<Integer> fact : facts) {
                    TreeMap<Integer, Integer> joined = join(row, pattern, fact);
                    if (joined != null) {
                        next.add(joined);
                    }
                }
            }
            rows = new ArrayList<>(next);
        }
        rows.sort(Model::compare);
        return rows;
    }

    private static TreeMap<Integer, Integer> join(
            TreeMap<Integer, Integer> row, List<Integer> pattern, List<Integer> fact) {
        TreeMap<Integer, Integer> joined = new TreeMap<>(row);
        for (int i = 0; i < 3; i++) {
            int place = pattern.get(i);
            int number = fact.get(i);
            int told = place >= 0 ? place : joined.getOrDefault(place, number);
            if (told != number) {
                return null;
            }
            if (place < 0) {
                joined.put(place, number);
            }
        }
        return joined;
    }

    private static int compare(TreeMap<Integer, Integer> one, TreeMap<Integer, Integer> other) {
        for (int variable : one.descendingKeySet()) {
            int difference = one.get(variable) - other.get(variable);
            if (difference != 0) {
                return difference;
            }
        }
        return 0;
    }
}
