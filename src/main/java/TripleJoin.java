public final class TripleJoin {
    private static final int MAX_FACTS = 48;
    private static final int MAX_PATTERNS = 4;
    private static final int HIGHEST_NUMBER = 7;
    private static final int LOWEST_VARIABLE = -4;

    private static final int BITS_OF_A_NUMBER = 3;
    private static final int POSSIBLE_FACTS = 512;
    private static final int POSSIBLE_CHOICES = 4096;
    private static final int REFUSED = -1;

    private final boolean[] held = new boolean[POSSIBLE_FACTS];
    private int factCount;

    private final int[] patternS = new int[MAX_PATTERNS];
    private final int[] patternP = new int[MAX_PATTERNS];
    private final int[] patternO = new int[MAX_PATTERNS];
    private int patternCount;

    // A choice packs one number for each variable into 12 bits, A in the highest
    // three and D in the lowest, so that counting upwards goes through the
    // choices in the order of the solutions. These are the bits of the variables
    // that stand in the question.
    private int standingBits;

    public TripleJoin() {
        factCount = 0;
        patternCount = 0;
        standingBits = 0;
    }

    public int add(int s, int p, int o) {
        if (!isFact(s, p, o) || factCount >= MAX_FACTS) {
            return REFUSED;
        }
        int index = factIndex(s, p, o);
        if (held[index]) {
            return REFUSED;
        }
        held[index] = true;
        factCount++;
        return factCount;
    }

    public int remove(int s, int p, int o) {
        if (!isHeld(s, p, o)) {
            return REFUSED;
        }
        held[factIndex(s, p, o)] = false;
        factCount--;
        return factCount;
    }

    public int pattern(int s, int p, int o) {
        if (!isPlace(s) || !isPlace(p) || !isPlace(o) || patternCount >= MAX_PATTERNS) {
            return REFUSED;
        }
        patternS[patternCount] = s;
        patternP[patternCount] = p;
        patternO[patternCount] = o;
        patternCount++;
        standingBits |= bitsOfPlace(s) | bitsOfPlace(p) | bitsOfPlace(o);
        return patternCount;
    }

    public void clear() {
        patternCount = 0;
        standingBits = 0;
    }

    public int solutions() {
        int found = 0;
        for (int choice = 0; choice < POSSIBLE_CHOICES; choice++) {
            if (isSolution(choice)) {
                found++;
            }
        }
        return found;
    }

    public int solution(int k, int variable) {
        if (k < 0 || !stands(variable)) {
            return REFUSED;
        }
        int before = 0;
        for (int choice = 0; choice < POSSIBLE_CHOICES; choice++) {
            if (isSolution(choice)) {
                if (before == k) {
                    return numberAt(variable, choice);
                }
                before++;
            }
        }
        return REFUSED;
    }

    public int with(int variable, int value) {
        if (!stands(variable)) {
            return REFUSED;
        }
        int found = 0;
        for (int choice = 0; choice < POSSIBLE_CHOICES; choice++) {
            if (numberAt(variable, choice) == value && isSolution(choice)) {
                found++;
            }
        }
        return found;
    }

    public int values(int variable) {
        if (!stands(variable)) {
            return REFUSED;
        }
        int seen = 0;
        for (int choice = 0; choice < POSSIBLE_CHOICES; choice++) {
            if (isSolution(choice)) {
                seen |= 1 << numberAt(variable, choice);
            }
        }
        return countNumbersIn(seen);
    }

    public int count(int s, int p, int o) {
        int found = 0;
        for (int index = 0; index < POSSIBLE_FACTS; index++) {
            if (held[index] && agrees(index, s, p, o)) {
                found++;
            }
        }
        return found;
    }

    public int has(int s, int p, int o) {
        return isHeld(s, p, o) ? 1 : 0;
    }

    private static boolean isNumber(int n) {
        return n >= 0 && n <= HIGHEST_NUMBER;
    }

    private static boolean isVariable(int n) {
        return n >= LOWEST_VARIABLE && n < 0;
    }

    private static boolean isPlace(int n) {
        return isNumber(n) || isVariable(n);
    }

    private static boolean isFact(int s, int p, int o) {
        return isNumber(s) && isNumber(p) && isNumber(o);
    }

    private static int factIndex(int s, int p, int o) {
        return (s << (2 * BITS_OF_A_NUMBER)) | (p << BITS_OF_A_NUMBER) | o;
    }

    private boolean isHeld(int s, int p, int o) {
        return isFact(s, p, o) && held[factIndex(s, p, o)];
    }

    private static boolean agrees(int index, int s, int p, int o) {
        int factS = index >> (2 * BITS_OF_A_NUMBER);
        int factP = (index >> BITS_OF_A_NUMBER) & HIGHEST_NUMBER;
        int factO = index & HIGHEST_NUMBER;
        return admits(s, factS) && admits(p, factP) && admits(o, factO);
    }

    private static boolean admits(int place, int number) {
        return !isNumber(place) || place == number;
    }

    private static int shiftOf(int variable) {
        return (variable - LOWEST_VARIABLE) * BITS_OF_A_NUMBER;
    }

    private static int bitsOfPlace(int place) {
        return isVariable(place) ? HIGHEST_NUMBER << shiftOf(place) : 0;
    }

    private boolean stands(int variable) {
        return (standingBits & bitsOfPlace(variable)) != 0;
    }

    private static int numberAt(int place, int choice) {
        return isVariable(place) ? (choice >> shiftOf(place)) & HIGHEST_NUMBER : place;
    }

    private boolean isSolution(int choice) {
        // Else a variable that doesn't stand in the question would count each
        // solution eight times.
        if ((choice & ~standingBits) != 0) {
            return false;
        }
        for (int i = 0; i < patternCount; i++) {
            int s = numberAt(patternS[i], choice);
            int p = numberAt(patternP[i], choice);
            int o = numberAt(patternO[i], choice);
            if (!isHeld(s, p, o)) {
                return false;
            }
        }
        return true;
    }

    private static int countNumbersIn(int seen) {
        int found = 0;
        for (int number = 0; number <= HIGHEST_NUMBER; number++) {
            if ((seen & (1 << number)) != 0) {
                found++;
            }
        }
        return found;
    }
}
