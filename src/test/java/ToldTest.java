/** Promises 29 to 32. */
public final class ToldTest {
    private static final int MIN = Integer.MIN_VALUE;
    private static final int MAX = Integer.MAX_VALUE;

    public static void main(String[] args) {
        tell();
        check();
        checkNone();
        count();
        found();
        Run.end();
    }

    private static void tell() {
        Run run = new Run("promise 29");
        for (int i = 1; i <= 24; i++) {
            run.due(i, "tell", i % 2 == 0 ? MIN : MAX);
        }
        run.due(Run.FULL, "tell", 0).due(24, "count", 4).due(Run.FULL, "tell", 0).due(2, "found", 4);
        run.due(99, "check").due(1, "tell", 0);
    }

    /** The fuses are at 0, 1 and 3. */
    private static Run town(String name) {
        Run run = new Run(name);
        run.due(0, "crate", 1000).due(0, "string", 0, 0, 1, 4, 60, 10).due(1, "string", 1, 0, 1, 1, 10, 10);
        run.due(2, "string", 1, 0, 1, 2, 10, 10).due(3, "string", 11, 2, 1, 10, 1, 1);
        return run.due(11, "fewest", 1);
    }

    private static void check() {
        Run empty = new Run("promise 30, no strings");
        empty.due(0, "check").due(1, "tell", 0).due(99, "check").due(0, "check");
        int[][] told = {{}, {0}, {0, 1}, {0, 1, 3}, {0, 1, 3, 2}, {1}, {0, 3, 1}, {0, 1, 2, 3}, {3, 1, 0}, {5, 1, 3, 4, 4},
            {0, 1, 2}, {0, 1, -3}};
        int[] want = {1, 2, 3, 0, 99, 1, 2, 3, 1, 1, 3, 3};
        Run run = town("promise 30");
        for (int i = 0; i < told.length; i++) {
            for (int v = 0; v < told[i].length; v++) {
                run.due(v + 1, "tell", told[i][v]);
            }
            run.due(want[i], "check").due(0, "count", 4);
        }
    }

    private static void checkNone() {
        Run run = town("promise 30, NONE");
        run.due(4, "string", 11, 2, 1, 10, 60, 10).due(1, "tell", 0).due(2, "tell", 1).due(Run.NONE, "check");
        run.due(0, "count", 4).due(1, "found", 2).due(1, "tell", 0).due(Run.NONE, "check").due(2, "found", 2);
    }

    private static void count() {
        Run run = new Run("promise 31");
        run.due(0, "crate", 9).due(1, "crate", 8).due(0, "string", 0, 0, 1, 1, 3, 1).due(1, "string", 1, 0, 1, 1, 2, 1);
        run.due(2, "string", 1, 1, 1, 1, 1, 1).due(3, "string", 1, 0, 1, 1, 1, 1).due(0, "dead", 1, 1);
        run.due(1, "tell", 3).due(0, "replace", 0, 0);
        int[] want = {4, 2, 1, 2, 1, 9};
        for (int what = 0; what < want.length; what++) {
            run.due(want[what], "count", what);
        }
        run.due(0, "dead", 2, 1).due(2, "count", 2).due(2, "count", 3).due(0, "dead", 0, 1).due(3, "count", 2);
        run.due(4, "count", 3).due(1, "dead", 1, 0).due(2, "count", 2).due(4, "count", 3);
        run.dueForEach(Run.BEYOND, 0, new int[] {-1, 6, MIN, MAX}, "count", 0);
    }

    private static void found() {
        Run run = new Run("promise 32");
        run.due(Run.BEYOND, "found", 0).due(1, "found", 1).due(Run.BEYOND, "found", 6).due(Run.BEYOND, "found", MIN);
        run.due(Run.BEYOND, "found", MAX).due(Run.BEYOND, "found", -1).due(5, "found", 1);
        run.due(0, "crate", 2).due(0, "string", 0, 0, 1, 1, 1, 1).due(Run.KIND, "as", 0, 1).due(1, "found", 5);
        run.due(Run.STATE, "next", 0).due(Run.STATE, "string", 0, 0, 1, 1, 2, 1).due(2, "found", 3);
        run.due(0, "dead", 0, 1).due(Run.NONE, "next", 0).due(1, "found", 2).due(0, "found", 4).due(5, "found", 1);
        for (int i = 1; i < 12; i++) {
            run.due(i, "crate", 1);
        }
        run.due(Run.FULL, "crate", 1).due(1, "found", 4).due(1, "found", 5);
    }
}
