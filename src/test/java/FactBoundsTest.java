/** Each sentence of the document that names a boundary of the facts, in its own method. */
public final class FactBoundsTest extends TestBase {
    public static void main(String[] args) {
        newObjectHoldsNoFact();
        numbersFromZeroToSevenAreTaken();
        addRefusesWhatIsNoNumber();
        addRefusesAHeldFact();
        addTakesTheFortyEighthAndNoMore();
        addRefusesEveryFactWhenFull();
        addWhenFullAndWrongInAnotherWay();
        addAfterRoomIsMade();
        removeFromNone();
        removeTheLastOne();
        removeFromFull();
        removeRefusesNeighboursOfAHeldFact();
        removeRefusesWhatIsNoNumber();
        removeTwice();
        removeWhatAddRefused();
        countPlacesFromZeroToSevenMustBeEqual();
        countOtherPlacesDoNotMatter();
        countOfNoneAndOfFull();
        hasAnswersOneOrZeroAlone();
        hasOfWhatIsNoNumber();
        check.end();
    }

    private static void holdsOnly(String what, TripleJoin x, int facts) {
        check.due(what + ": count", x.count(ANY, ANY, ANY), facts);
    }

    // Promise 1: "No fact, no pattern." Terms: "none at the start".
    private static void newObjectHoldsNoFact() {
        TripleJoin asked = new TripleJoin();
        TripleJoin removed = new TripleJoin();
        for (int i = 0; i < 511; i++) {
            check.due("1: has fact " + i, asked.has(i / 64, i / 8 % 8, i % 8), 0);
            check.due("1: remove of fact " + i, removed.remove(i / 64, i / 8 % 8, i % 8), -1);
        }
        holdsOnly("1: new", asked, 0);
        holdsOnly("1: new, after removes", removed, 0);
        check.due("1: has fact 511", new TripleJoin().has(7, 7, 7), 0);
        check.due("1: remove of fact 511", new TripleJoin().remove(7, 7, 7), -1);
        check.due("1: the first fact is the first", new TripleJoin().add(7, 7, 7), 1);
    }

    // Terms: "FACTS are triples (s, p, o) of numbers from 0 to 7".
    private static void numbersFromZeroToSevenAreTaken() {
        for (int n = 0; n <= 7; n++) {
            TripleJoin x = new TripleJoin();
            int other = n == 3 ? 4 : 3;
            check.due("2: s " + n, x.add(n, other, other), 1);
            check.due("2: p " + n, x.add(other, n, other), 2);
            check.due("2: o " + n, x.add(other, other, n), 3);
            check.due("2: all " + n, x.add(n, n, n), 4);
            check.due("2: s " + n + " is held", x.has(n, other, other), 1);
            check.due("2: p " + n + " is held", x.has(other, n, other), 1);
            check.due("2: o " + n + " is held", x.has(other, other, n), 1);
            check.due("2: all " + n + " is held", x.has(n, n, n), 1);
            holdsOnly("2: number " + n, x, 4);
        }
    }

    // Promise 2: "-1, and changes nothing, if s, p or o is not from 0 to 7".
    private static void addRefusesWhatIsNoNumber() {
        for (int n : NOT_NUMBERS) {
            addRefuses(n, 0, 0);
            addRefuses(0, n, 0);
            addRefuses(0, 0, n);
            addRefuses(n, 7, 7);
            addRefuses(7, n, 7);
            addRefuses(7, 7, n);
            addRefuses(n, n, n);
        }
        // Two wrong parts that would make up for each other if they were added up.
        addRefuses(1, -1, 8);
        addRefuses(1, -8, 0);
        addRefuses(0, 1, -8);
    }

    private static void addRefuses(int s, int p, int o) {
        String call = "2: add(" + s + ", " + p + ", " + o + ")";
        TripleJoin x = new TripleJoin();
        check.due(call, x.add(s, p, o), -1);
        holdsOnly(call, x, 0);
        check.due(call + ", then (0, 0, 0)", x.add(0, 0, 0), 1);
        check.due(call + ", then (7, 7, 7)", x.add(7, 7, 7), 2);
        check.due(call + ", then again", x.add(s, p, o), -1);
        holdsOnly(call + " again", x, 2);
    }

    // Promise 2: "-1, and changes nothing, if [...] the fact is held".
    private static void addRefusesAHeldFact() {
        TripleJoin x = withFacts(0, 0, 0, 1, 2, 3, 7, 7, 7);
        int[][] held = {{0, 0, 0}, {1, 2, 3}, {7, 7, 7}};
        for (int[] fact : held) {
            check.due("2: a held fact", x.add(fact[0], fact[1], fact[2]), -1);
            check.due("2: it is still held", x.has(fact[0], fact[1], fact[2]), 1);
            holdsOnly("2: a held fact", x, 3);
        }
        check.due("2: held once, not twice", x.remove(1, 2, 3), 2);
        check.due("2: held no longer", x.has(1, 2, 3), 0);
        check.due("2: no longer refused", x.add(1, 2, 3), 3);
    }

    // Promise 2: "-1, and changes nothing, if [...] or 48 are"; Terms: "at most 48 are held".
    private static void addTakesTheFortyEighthAndNoMore() {
        TripleJoin x = new TripleJoin();
        for (int i = 0; i < 47; i++) {
            x.add(i / 8, i % 8, 5);
        }
        holdsOnly("2: one before the last", x, 47);
        check.due("2: the 48th", x.add(5, 7, 5), 48);
        check.due("2: the 48th is held", x.has(5, 7, 5), 1);
        check.due("2: the 49th", x.add(6, 0, 5), -1);
        check.due("2: the 49th is not held", x.has(6, 0, 5), 0);
        check.due("2: the 49th once more", x.add(6, 0, 5), -1);
        holdsOnly("2: full", x, 48);
        for (int i = 0; i < 48; i++) {
            check.due("2: fact " + i + " is still held", x.has(i / 8, i % 8, 5), 1);
        }
    }

    private static void addRefusesEveryFactWhenFull() {
        for (int half = 0; half < 2; half++) {
            TripleJoin x = full();
            for (int i = 256 * half; i < 256 * half + 256; i++) {
                check.due("2: fact " + i + " when full", x.add(i / 64, i / 8 % 8, i % 8), -1);
            }
            holdsOnly("2: full", x, 48);
        }
    }

    private static void addWhenFullAndWrongInAnotherWay() {
        TripleJoin x = full();
        check.due("2: full, and held", x.add(0, 0, 0), -1);
        check.due("2: full, and too small", x.add(0, 0, -1), -1);
        check.due("2: full, and too large", x.add(8, 0, 0), -1);
        holdsOnly("2: full", x, 48);
        check.due("2: it is still held", x.has(0, 0, 0), 1);
    }

    private static void addAfterRoomIsMade() {
        TripleJoin x = full();
        check.due("2: refused", x.add(7, 7, 7), -1);
        check.due("2: room for one", x.remove(0, 0, 0), 47);
        check.due("2: a held one takes no room", x.add(0, 1, 1), -1);
        check.due("2: a wrong one takes no room", x.add(7, 7, 8), -1);
        check.due("2: the room is used", x.add(7, 7, 7), 48);
        check.due("2: no more room", x.add(0, 0, 0), -1);
        check.due("2: (0, 0, 0) is not held", x.has(0, 0, 0), 0);
        check.due("2: (7, 7, 7) is held", x.has(7, 7, 7), 1);
    }

    // Promise 3: "-1, and changes nothing, if it is not held."
    private static void removeFromNone() {
        TripleJoin x = new TripleJoin();
        check.due("3: from none", x.remove(0, 0, 0), -1);
        check.due("3: from none, highest", x.remove(7, 7, 7), -1);
        holdsOnly("3: none", x, 0);
        check.due("3: none below none", x.add(0, 0, 0), 1);
    }

    private static void removeTheLastOne() {
        TripleJoin x = withFacts(7, 0, 7);
        check.due("3: the last one", x.remove(7, 0, 7), 0);
        check.due("3: it is not held", x.has(7, 0, 7), 0);
        holdsOnly("3: the last one", x, 0);
        check.due("3: after the last one", x.remove(7, 0, 7), -1);
        check.due("3: once more from the start", x.add(7, 0, 7), 1);
    }

    private static void removeFromFull() {
        TripleJoin x = full();
        check.due("3: not held when full", x.remove(7, 7, 7), -1);
        holdsOnly("3: full", x, 48);
        for (int i = 47; i >= 0; i--) {
            check.due("3: down to " + i, x.remove(i / 8, i % 8, i % 3), i);
        }
        check.due("3: none is left", x.remove(0, 0, 0), -1);
    }

    private static void removeRefusesNeighboursOfAHeldFact() {
        TripleJoin x = withFacts(3, 4, 5);
        for (int n = 0; n <= 7; n++) {
            check.due("3: s " + n, n == 3 ? -1 : x.remove(n, 4, 5), -1);
            check.due("3: p " + n, n == 4 ? -1 : x.remove(3, n, 5), -1);
            check.due("3: o " + n, n == 5 ? -1 : x.remove(3, 4, n), -1);
        }
        check.due("3: parts in another order", x.remove(5, 4, 3), -1);
        check.due("3: still held", x.has(3, 4, 5), 1);
        check.due("3: the fact itself", x.remove(3, 4, 5), 0);
    }

    // A triple with a part that is no number is not held, whatever facts have its low bits.
    private static void removeRefusesWhatIsNoNumber() {
        int[] numbers = {0, 1, 6, 7};
        for (int n : NOT_NUMBERS) {
            for (int m : numbers) {
                TripleJoin x = withFacts(0, 0, 0, 0, 1, 0, 1, 0, 0, 6, 6, 6, 6, 7, 7, 7, 0, 0, 7, 7, 7);
                check.due("3: s " + n + " beside " + m, x.remove(n, m, m), -1);
                check.due("3: p " + n + " beside " + m, x.remove(m, n, m), -1);
                check.due("3: o " + n + " beside " + m, x.remove(m, m, n), -1);
                check.due("3: all " + n, x.remove(n, n, n), -1);
                holdsOnly("3: " + n + " beside " + m, x, 7);
                check.due("3: (0, 1, 0) after " + n, x.has(0, 1, 0), 1);
                check.due("3: then a held one", x.remove(7, 7, 7), 6);
            }
        }
    }

    private static void removeTwice() {
        TripleJoin x = withFacts(1, 1, 1, 2, 2, 2);
        check.due("3: once", x.remove(1, 1, 1), 1);
        check.due("3: twice", x.remove(1, 1, 1), -1);
        holdsOnly("3: twice", x, 1);
        check.due("3: the other is held", x.has(2, 2, 2), 1);
    }

    private static void removeWhatAddRefused() {
        TripleJoin x = full();
        check.due("3: the 49th is refused", x.add(7, 7, 7), -1);
        check.due("3: and can't be removed", x.remove(7, 7, 7), -1);
        holdsOnly("3: full", x, 48);
    }

    // Promise 10: "a place from 0 to 7 must be equal".
    private static void countPlacesFromZeroToSevenMustBeEqual() {
        TripleJoin x = new TripleJoin();
        for (int n = 0; n <= 7; n++) {
            x.add(n, n, n);
        }
        x.add(0, 7, 0);
        x.add(7, 0, 7);
        for (int n = 0; n <= 7; n++) {
            int atEnds = n == 0 || n == 7 ? 2 : 1;
            check.due("10: s " + n, x.count(n, ANY, ANY), atEnds);
            check.due("10: p " + n, x.count(ANY, n, ANY), atEnds);
            check.due("10: o " + n, x.count(ANY, ANY, n), atEnds);
            check.due("10: all " + n, x.count(n, n, n), 1);
        }
        check.due("10: a held fact", x.count(0, 7, 0), 1);
        check.due("10: one that is not held", x.count(0, 0, 7), 0);
        check.due("10: two places of a held fact", x.count(7, ANY, 7), 2);
        check.due("10: two places of no fact", x.count(0, ANY, 7), 0);
    }

    // Promise 10: "any other place doesn't matter."
    private static void countOtherPlacesDoNotMatter() {
        TripleJoin x = withFacts(0, 0, 0, 0, 0, 7, 0, 7, 0, 7, 0, 0, 1, 2, 3);
        for (int n : NOT_NUMBERS) {
            check.due("10: s " + n, x.count(n, 0, 0), 2);
            check.due("10: p " + n, x.count(0, n, 0), 2);
            check.due("10: o " + n, x.count(0, 0, n), 2);
            check.due("10: s p " + n, x.count(n, n, 7), 1);
            check.due("10: s o " + n, x.count(n, 2, n), 1);
            check.due("10: p o " + n, x.count(1, n, n), 1);
            check.due("10: all " + n, x.count(n, n, n), 5);
        }
        check.due("10: different other places", x.count(MIN, 8, MAX), 5);
        check.due("10: a variable twice asks for nothing alike", x.count(A, 2, A), 1);
    }

    private static void countOfNoneAndOfFull() {
        TripleJoin none = new TripleJoin();
        check.due("10: none", none.count(ANY, ANY, ANY), 0);
        check.due("10: none, a fact", none.count(0, 0, 0), 0);
        TripleJoin x = full();
        check.due("10: full", x.count(8, 8, 8), 48);
        check.due("10: full, an s", x.count(5, ANY, ANY), 8);
        check.due("10: full, an s that no fact has", x.count(6, ANY, ANY), 0);
    }

    // Promise 11: "1 if the fact is held, else 0."
    private static void hasAnswersOneOrZeroAlone() {
        TripleJoin x = full();
        check.due("11: held", x.has(0, 0, 0), 1);
        check.due("11: held, the last", x.has(5, 7, 2), 1);
        check.due("11: not held", x.has(7, 7, 7), 0);
        x.add(7, 7, 7);
        check.due("11: refused by add", x.has(7, 7, 7), 0);
        x.remove(0, 0, 0);
        check.due("11: removed", x.has(0, 0, 0), 0);
        x.add(0, 0, 0);
        check.due("11: added again", x.has(0, 0, 0), 1);
        x.pattern(7, 7, 7);
        check.due("11: a pattern is no fact", x.has(7, 7, 7), 0);
        x.clear();
        check.due("11: clear leaves the facts", x.has(0, 0, 0), 1);
    }

    private static void hasOfWhatIsNoNumber() {
        TripleJoin x = withFacts(0, 0, 0, 0, 1, 0, 1, 0, 0, 6, 6, 6, 6, 7, 7, 7, 0, 0, 7, 7, 7);
        for (int n : NOT_NUMBERS) {
            for (int m = 0; m <= 7; m += 7) {
                check.due("11: s " + n + " beside " + m, x.has(n, m, m), 0);
                check.due("11: p " + n + " beside " + m, x.has(m, n, m), 0);
                check.due("11: o " + n + " beside " + m, x.has(m, m, n), 0);
            }
            check.due("11: all " + n, x.has(n, n, n), 0);
        }
        check.due("11: (0, 0, 8) is not (0, 1, 0)", x.has(0, 0, 8), 0);
        check.due("11: (0, 8, 0) is not (1, 0, 0)", x.has(0, 8, 0), 0);
        check.due("11: (6, 8, -1) is not (6, 7, 7)", x.has(6, 8, -1), 0);
    }
}
