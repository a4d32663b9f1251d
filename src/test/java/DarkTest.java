/** Promises 13 to 16. */
public final class DarkTest {
    private static final int MIN = Integer.MIN_VALUE;
    private static final int MAX = Integer.MAX_VALUE;

    public static void main(String[] args) {
        explain();
        look();
        next();
        fault();
        Run.end();
    }

    private static void explain() {
        Run run = new Run("promise 13");
        run.due(0, "explain", 0).due(Run.BEYOND, "explain", 1);
        run.due(0, "crate", 1000).due(0, "string", 0, 0, 1, 1, 1, 1).due(1, "string", 1, 0, 1, 1, 1, 1);
        run.due(2, "string", 1, 1, 1, 1, 1, 1).due(3, "string", 0, 0, 1, 1, 1, 1).due(4, "string", 1, 0, 1, 1, 1, 1);
        run.dueForEach(Run.BEYOND, 0, new int[] {32, 33, -1, MIN, MAX, 1 << 24}, "explain", 0);
        run.due(0, "explain", 0).due(1, "explain", 23).due(9, "explain", 31).due(Run.NONE, "explain", 21);
        run.due(Run.NONE, "explain", 7).due(2, "explain", 6).due(Run.NONE, "explain", 2).due(4, "explain", 4);
        run.due(18, "explain", 22).due(26, "explain", 30);
    }

    private static void look() {
        Run run = new Run("promise 14");
        run.due(Run.BEYOND, "look", 0, 0, 0);
        run.due(0, "crate", 1000).due(0, "string", 0, 0, 1, 1, 10, 1).due(Run.STATE, "look", 0, 0, 0);
        run.due(Run.BEYOND, "look", 0, 10, 0).due(0, "dead", 0, 1);
        run.dueForEach(Run.BEYOND, 0, new int[] {-1, 1, MIN, MAX}, "look", 0, 0, 0);
        run.dueForEach(Run.BEYOND, 1, new int[] {-1, 10, MIN, MAX}, "look", 0, 0, 0);
        run.dueForEach(Run.BEYOND, 2, new int[] {-1, 2, MIN, MAX}, "look", 0, 0, 0);
        run.due(Run.NONE, "look", 0, 9, 1).due(10, "look", 0, 9, 0).due(9, "look", 0, 0, 1);
        run.due(Run.NONE, "look", 0, 0, 0).due(9, "look", 0, 0, 1).due(6, "look", 0, 6, 0).due(6, "look", 0, 8, 0);
        run.due(1, "fault", 0, 0).due(6, "fault", 0, 1).due(Run.NONE, "look", 0, 7, 1).due(3, "look", 0, 3, 1);
        run.due(1, "look", 0, 4, 0).due(1, "look", 0, 4, 0).due(1, "look", 0, 3, 1).due(Run.NONE, "look", 0, 4, 1);
        run.due(4, "fault", 0, 0).due(4, "fault", 0, 1).due(4, "found", 2);
    }

    private static void next() {
        Run run = new Run("promise 15");
        run.due(Run.BEYOND, "next", 0);
        run.due(0, "crate", 1000).due(0, "string", 0, 0, 1, 1, 6, 1).due(1, "string", 1, 0, 1, 1, 1, 1);
        run.due(Run.STATE, "next", 0).due(0, "dead", 0, 1).due(Run.STATE, "next", 1).due(0, "dead", 1, 1);
        run.due(2, "next", 0).due(Run.NONE, "next", 1).due(3, "look", 0, 2, 1).due(4, "next", 0);
        run.due(2, "look", 0, 4, 0).due(3, "next", 0).due(1, "look", 0, 3, 0).due(Run.NONE, "next", 0);
        run.dueForEach(Run.BEYOND, 0, new int[] {-1, 2, 24, MIN, MAX}, "next", 0);
    }

    private static void fault() {
        Run run = new Run("promise 16");
        run.due(Run.BEYOND, "fault", 0, 0);
        run.due(0, "crate", 1000).due(0, "string", 0, 0, 1, 1, 60, 1).due(Run.STATE, "fault", 0, 0);
        run.due(Run.STATE, "fault", 0, 1).due(0, "dead", 0, 1).due(0, "fault", 0, 0).due(59, "fault", 0, 1);
        run.dueForEach(Run.BEYOND, 0, new int[] {-1, 1, 24, MIN, MAX}, "fault", 0, 1);
        run.due(39, "look", 0, 20, 1).due(21, "fault", 0, 0).due(59, "fault", 0, 1);
    }
}
