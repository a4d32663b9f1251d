/** Promises 26 to 28. */
public final class LampsTest {
    private static final int MIN = Integer.MIN_VALUE;
    private static final int MAX = Integer.MAX_VALUE;

    public static void main(String[] args) {
        lamp();
        replace();
        box();
        Run.end();
    }

    private static void lamp() {
        Run run = new Run("promise 26");
        run.due(Run.BEYOND, "lamp", 0, 0);
        run.due(0, "crate", 2).due(1, "crate", 60).due(0, "string", 0, 0, 1, 1, 1, 1);
        run.due(1, "string", 0, 0, 1, 1, 60, 1).due(0, "lamp", 0, 0).due(0, "lamp", 1, 0).due(1, "lamp", 1, 1);
        run.due(1, "lamp", 1, 59);
        run.dueForEach(Run.BEYOND, 1, new int[] {-1, 1, 60, MIN, MAX}, "lamp", 0, 0);
        run.dueForEach(Run.BEYOND, 1, new int[] {-1, 60, MIN, MAX}, "lamp", 1, 0);
        run.dueForEach(Run.BEYOND, 0, new int[] {-1, 2, 24, MIN, MAX}, "lamp", 0, 0);
    }

    private static void replace() {
        Run run = new Run("promise 27");
        run.due(Run.BEYOND, "replace", 0, 0);
        run.due(0, "crate", 4).due(1, "crate", 1).due(0, "string", 0, 0, 1, 1, 3, 1);
        run.dueForEach(Run.BEYOND, 1, new int[] {-1, 3, MIN, MAX}, "replace", 0, 0);
        run.dueForEach(Run.BEYOND, 0, new int[] {-1, 1, 24, MIN, MAX}, "replace", 0, 0);
        run.due(0, "replace", 0, 1).due(1, "replace", 0, 1).due(1, "lamp", 0, 1).due(0, "lamp", 0, 0);
        run.due(Run.STATE, "replace", 0, 1).due(Run.BEYOND, "replace", 0, 3).due(1, "lamp", 0, 1);
        run.due(2, "box", 0, 2).due(0, "box", 1, 2).due(2, "box", 0, 3).due(1, "box", 1, 3);
        run.due(2, "crate", 2).due(2, "replace", 0, 1).due(1, "box", 1, 2).due(0, "box", 1, 3).due(1, "box", 2, 1);
        Run dead = new Run("promise 27, nothing else changes");
        dead.due(0, "crate", 10).due(0, "string", 0, 0, 1, 1, 5, 1).due(0, "dead", 0, 1).due(2, "look", 0, 2, 1);
        dead.due(0, "replace", 0, 3).due(1, "about", 0, 8).due(3, "fault", 0, 0).due(4, "fault", 0, 1);
    }

    private static void box() {
        Run run = new Run("promise 28");
        run.due(Run.BEYOND, "box", 0, 0);
        run.due(0, "crate", 5).due(1, "crate", 7).due(0, "string", 0, 0, 1, 1, 6, 1).due(1, "replace", 0, 2);
        boxes(run, 0, 5, 0, 1, 4);
        boxes(run, 1, 7, 5, 0, 2);
        run.dueForEach(Run.BEYOND, 1, new int[] {-1, 4, MIN, MAX}, "box", 0, 0);
        run.dueForEach(Run.BEYOND, 0, new int[] {-1, 2, 12, MIN, MAX}, "box", 0, 0);
        run.due(Run.STATE, "string", 0, 0, 1, 1, 6, 1);
        boxes(run, 1, 7, 5, 0, 2);
    }

    private static void boxes(Run run, int crate, int... want) {
        for (int what = 0; what < want.length; what++) {
            run.due(want[what], "box", crate, what);
        }
    }
}
