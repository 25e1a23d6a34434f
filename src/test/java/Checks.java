/** Counts and prints the answers that are not the ones that are due. */
final class Checks {
    private int done;
    private int wrong;

    void due(String call, long want, long got) {
        done++;
        if (got != want) {
            wrong++;
            System.out.println(call + " answered " + got + ", due is " + want);
        }
    }

    void due(String call, boolean want, boolean got) {
        due(call, want ? 1L : 0L, got ? 1L : 0L);
    }

    boolean allRight() {
        return wrong == 0;
    }

    void close() {
        System.out.println(done + " answers looked at, " + wrong + " wrong");
        if (wrong != 0 || done == 0) {
            System.exit(1);
        }
    }
}
