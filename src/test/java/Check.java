/** Counts and prints the answers of one test that are not the ones due. */
final class Check {
    private int wrong = 0;
    private int looked = 0;

    void due(String call, int got, int want) {
        looked++;
        if (got != want) {
            wrong++;
            System.out.println(call + " answered " + got + ", due is " + want);
        }
    }

    void isTrue(String claim, boolean holds) {
        looked++;
        if (!holds) {
            wrong++;
            System.out.println("not so: " + claim);
        }
    }

    void end() {
        System.out.println(looked + " answers looked at, " + wrong + " wrong");
        if (wrong != 0) {
            System.exit(1);
        }
    }
}
