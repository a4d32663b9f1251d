/** Promises 23 to 25. */
public final class SharesTest {
    private static final int MIN = Integer.MIN_VALUE;
    private static final int MAX = Integer.MAX_VALUE;

    public static void main(String[] args) {
        front();
        part();
        share();
        greatestRests();
        greatNumbers();
        Run.end();
    }

    private static void front() {
        Run run = new Run("promise 23");
        run.due(0, "front", 0, 1000).due(1000, "front", 0, 7).due(0, "front", 7, 1).due(1, "front", 7, 0);
        run.dueForEach(Run.BEYOND, 0, new int[] {-1, 8, MIN, MAX}, "front", 0, 1);
        run.dueForEach(Run.BEYOND, 1, new int[] {-1, 1001, MIN, MAX}, "front", 0, 1);
        run.due(7, "front", 0, 7);
    }

    private static void part() {
        Run run = new Run("promise 24");
        run.due(50, "part", 0).due(0, "part", 100).dueForEach(Run.BEYOND, 0, new int[] {-1, 101, MIN, MAX}, "part", 0);
        run.due(100, "part", 1).due(0, "front", 3, 1).due(1, "share", -1, 199).due(198, "share", 3, 199);
    }

    private static void share() {
        Run run = new Run("promise 25");
        shares(run, 9, 9, 0, 0, 0, 0, 0, 0, 0, 0);
        shares(run, 0, 0, 0, 0, 0, 0, 0, 0, 0, 0);
        run.due(0, "front", 2, 1);
        shares(run, 9, 4, 0, 0, 5, 0, 0, 0, 0, 0);
        run.dueForEach(Run.BEYOND, 0, new int[] {-2, 8, MIN, MAX}, "share", 0, 1);
        run.dueForEach(Run.BEYOND, 1, new int[] {-1, 1000001, MIN, MAX}, "share", 0, 1);
        run.due(50, "part", 100);
        shares(run, 9, 9, 0, 0, 0, 0, 0, 0, 0, 0);
        run.due(100, "part", 0);
        shares(run, 9, 0, 0, 0, 9, 0, 0, 0, 0, 0);
        run.due(1, "front", 2, 0);
        shares(run, 9, 9, 0, 0, 0, 0, 0, 0, 0, 0);
    }

    private static void greatestRests() {
        Run run = new Run("promise 25, the greatest rests");
        run.due(50, "part", 0).due(0, "front", 1, 2).due(0, "front", 4, 3).due(0, "front", 6, 2);
        shares(run, 10, 0, 0, 3, 0, 0, 4, 0, 3, 0);
        shares(run, 11, 0, 0, 3, 0, 0, 5, 0, 3, 0);
        shares(run, 12, 0, 0, 4, 0, 0, 5, 0, 3, 0);
        shares(run, 1, 0, 0, 0, 0, 0, 1, 0, 0, 0);
        shares(run, 7, 0, 0, 2, 0, 0, 3, 0, 2, 0);
        Run even = new Run("promise 25, of several the least number");
        for (int shop = 0; shop < 8; shop++) {
            even.due(0, "front", shop, 5);
        }
        shares(even, 27, 13, 2, 2, 2, 2, 2, 2, 1, 1);
        shares(even, 1, 0, 1, 0, 0, 0, 0, 0, 0, 0);
    }

    /** The town's first, then the shops'. */
    private static void shares(Run run, int bill, int... want) {
        for (int shop = -1; shop < 8; shop++) {
            run.due(want[shop + 1], "share", shop, bill);
        }
    }

    private static void greatNumbers() {
        Run run = new Run("promise 25, great numbers");
        run.due(50, "part", 0);
        for (int shop = 0; shop < 8; shop++) {
            run.due(0, "front", shop, 1000);
        }
        shares(run, 1000000, 0, 125000, 125000, 125000, 125000, 125000, 125000, 125000, 125000);
        shares(run, 999997, 0, 125000, 125000, 125000, 125000, 125000, 124999, 124999, 124999);
        run.due(0, "part", 99).due(990000, "share", -1, 1000000).due(1250, "share", 7, 1000000);
    }
}
