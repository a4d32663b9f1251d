/** Promises 17 to 22. */
public final class NightsTest {
    private static final int MIN = Integer.MIN_VALUE;
    private static final int MAX = Integer.MAX_VALUE;

    public static void main(String[] args) {
        crews();
        open();
        order();
        plan();
        lastNight();
        hung();
        best();
        bestOfSeveral();
        bestWithCrews();
        bestForgets();
        Run.end();
    }

    private static Run lamps(String name) {
        return new Run(name).due(0, "crate", 1000);
    }

    private static void crews() {
        Run run = lamps("promise 17");
        run.due(1, "crews", 1, 1).due(1, "crews", 3, 12);
        run.dueForEach(Run.BEYOND, 0, new int[] {0, -1, 4, MIN, MAX}, "crews", 1, 1);
        run.dueForEach(Run.BEYOND, 1, new int[] {0, -1, 13, MIN, MAX}, "crews", 1, 1);
        for (int s = 0; s < 7; s++) {
            run.due(s, "string", 0, 0, 100, 1, 1, 1);
        }
        int[] nights = {0, 0, 0, 0, 0, 0, 1};
        int[] crews = {0, 0, 1, 1, 2, 2, 0};
        for (int s = 0; s < 7; s++) {
            run.due(nights[s], "hung", s, 0).due(crews[s], "hung", s, 1);
        }
        run.due(2, "plan").due(1, "crews", 1, 6).due(7, "plan").due(1, "crews", 1, 5).due(99, "plan");
        run.due(1, "crews", 2, 6).due(4, "plan");
    }

    private static void open() {
        Run run = lamps("promise 18");
        run.due(127, "open", 0, 0).due(0, "open", 0, 127).due(127, "open", 7, 8).due(8, "open", 7, 16);
        run.dueForEach(Run.BEYOND, 0, new int[] {-1, 8, MIN, MAX}, "open", 0, 1);
        run.dueForEach(Run.BEYOND, 1, new int[] {-1, 128, MIN, MAX}, "open", 7, 1);
        run.due(0, "string", 700, 0, 1, 1, 1, 1).due(1, "string", 600, 0, 1, 1, 1, 1).due(5, "plan");
        run.due(4, "hung", 0, 0).due(0, "hung", 1, 0).due(16, "open", 7, 64).due(7, "plan").due(64, "open", 7, 0);
        run.due(99, "plan").due(-1, "hung", 0, 0).due(0, "hung", 1, 0);
    }

    private static void order() {
        Run run = lamps("promise 19");
        run.due(Run.BEYOND, "order", 0, 0);
        for (int s = 0; s < 5; s++) {
            run.due(s, "string", 0, 0, 1, 1, 1, 1);
        }
        run.dueForEach(Run.BEYOND, 0, new int[] {-1, 5, MIN, MAX}, "order", 0, 0);
        run.dueForEach(Run.BEYOND, 1, new int[] {-1, 5, MIN, MAX}, "order", 0, 0);
        run.due(1, "order", 1, 3);
        places(run, 0, 3, 1, 2, 4);
        run.due(4, "order", 4, 0);
        places(run, 1, 4, 2, 3, 0);
        run.due(2, "order", 2, 2).due(0, "order", 4, 4);
        places(run, 0, 3, 1, 2, 4);
        run.due(5, "string", 0, 0, 1, 1, 1, 1);
        places(run, 0, 3, 1, 2, 4, 5);
    }

    private static void places(Run run, int... want) {
        for (int s = 0; s < want.length; s++) {
            run.due(want[s], "hung", s, 2);
        }
    }

    private static void plan() {
        Run run = lamps("promise 20");
        run.due(0, "plan").due(0, "string", 0, 0, 39, 1, 1, 1).due(1, "plan");
        run.due(1, "string", 100, 0, 100, 1, 1, 1).due(2, "plan").due(2, "string", 1, 1, 20, 1, 1, 1);
        run.due(3, "plan").due(3, "string", 0, 0, 60, 1, 1, 1).due(3, "plan").due(0, "hung", 3, 0);
        run.due(2, "order", 2, 0).due(99, "plan").due(-1, "hung", 2, 0).due(0, "hung", 0, 0);
        Run up = lamps("promise 20, from the night of its up on");
        up.due(127, "open", 0, 4).due(127, "open", 1, 3).due(0, "string", 0, 0, 1, 1, 1, 1);
        up.due(1, "string", 101, 0, 1, 1, 1, 1).due(2, "string", 1, 1, 1, 1, 1, 1).due(10, "plan");
        up.due(2, "hung", 0, 0).due(7, "hung", 1, 0).due(9, "hung", 2, 0);
        Run first = lamps("promise 20, the first night, then the least crew");
        first.due(1, "crews", 2, 3).due(0, "string", 0, 0, 20, 1, 1, 1).due(1, "string", 0, 0, 20, 1, 1, 1);
        first.due(2, "string", 0, 0, 40, 1, 1, 1).due(3, "string", 0, 0, 1, 1, 1, 1).due(4, "string", 0, 0, 1, 1, 1, 1);
        first.due(2, "plan").due(1, "hung", 1, 1).due(1, "hung", 2, 0).due(0, "hung", 2, 1);
        first.due(0, "hung", 3, 0).due(0, "hung", 3, 1).due(0, "hung", 4, 0).due(1, "hung", 4, 1);
    }

    /** Nights 0 to 59: a street that is open in one night of seven has 9 nights or 8. */
    private static void lastNight() {
        Run run = lamps("promise 20, nights up to 59");
        run.due(127, "open", 0, 8).due(127, "open", 1, 16);
        for (int s = 0; s < 9; s++) {
            run.due(s, "string", 0, 0, 100, 1, 1, 1);
        }
        run.due(60, "plan").due(59, "hung", 8, 0).due(9, "string", 0, 0, 100, 1, 1, 1).due(99, "plan");
        run.due(-1, "hung", 9, 0).due(-1, "hung", 9, 1).due(59, "hung", 8, 0).due(8, "open", 0, 16).due(99, "plan");
        run.due(53, "hung", 7, 0).due(-1, "hung", 8, 0);
    }

    private static void hung() {
        Run run = lamps("promise 21");
        run.due(Run.BEYOND, "hung", 0, 0);
        int[] lengths = {1, 19, 20, 39, 40, 99, 100};
        int[] hours = {1, 1, 2, 2, 3, 5, 6};
        for (int s = 0; s < 7; s++) {
            run.due(s, "string", 0, 0, lengths[s], 1, 1, 1).due(hours[s], "hung", s, 3).due(s, "hung", s, 2);
        }
        run.dueForEach(Run.BEYOND, 1, new int[] {-1, 4, MIN, MAX}, "hung", 0, 0);
        run.dueForEach(Run.BEYOND, 0, new int[] {-1, 7, 24, MIN, MAX}, "hung", 0, 0);
        int[] nights = {0, 0, 0, 0, 1, 2, 3};
        for (int s = 0; s < 7; s++) {
            run.due(nights[s], "hung", s, 0).due(0, "hung", s, 1);
        }
        run.due(1, "crews", 2, 6).due(0, "hung", 4, 0).due(1, "hung", 4, 1).due(1, "crews", 1, 1);
        run.due(-1, "hung", 4, 0).due(-1, "hung", 4, 1).due(3, "hung", 4, 3).due(4, "hung", 4, 2);
    }

    private static void best() {
        Run run = lamps("promise 22");
        run.due(0, "best").due(0, "string", 0, 0, 40, 1, 1, 1).due(1, "string", 0, 0, 60, 1, 1, 1);
        run.due(2, "string", 0, 0, 60, 1, 1, 1).due(3, "string", 0, 0, 40, 1, 1, 1).due(3, "best");
        places(run, 0, 1, 2, 3);
        run.due(4, "string", 0, 0, 20, 1, 1, 1).due(5, "string", 0, 0, 80, 1, 1, 1).due(4, "best");
        run.due(4, "plan").due(6, "string", 0, 0, 1, 1, 1, 1).due(Run.STATE, "best").due(1, "found", 3);
        places(run, 0, 1, 2, 3, 4, 5, 6);
    }

    /** By numbers the long one comes last and late; it must come ahead of what takes its only open night. */
    private static void bestOfSeveral() {
        Run run = lamps("promise 22, of several the lesser");
        run.due(127, "open", 1, 1).due(0, "string", 0, 0, 1, 1, 1, 1).due(1, "string", 0, 0, 1, 1, 1, 1);
        run.due(2, "string", 100, 0, 80, 1, 1, 1).due(8, "plan").due(2, "order", 2, 0).due(2, "plan");
        run.due(1, "order", 0, 2).due(2, "best");
        places(run, 0, 2, 1);
        run.due(3, "string", 1, 2, 1, 1, 1, 1).due(2, "best");
        places(run, 0, 2, 1, 3);
        run.due(1, "crews", 1, 4).due(0, "order", 0, 3).due(99, "best");
        places(run, 0, 1, 2, 3);
    }

    /** Two strings keep the long one from its only night unless it is the first; its child never comes ahead of it. */
    private static void bestWithCrews() {
        Run run = lamps("promise 22, several crews");
        run.due(1, "crews", 2, 6).due(127, "open", 1, 2).due(127, "open", 2, 1);
        run.due(0, "string", 200, 0, 60, 1, 1, 1).due(1, "string", 100, 0, 60, 1, 1, 1);
        run.due(2, "string", 100, 0, 60, 1, 1, 1).due(3, "string", 101, 1, 100, 1, 1, 1).due(9, "plan").due(9, "best");
        places(run, 0, 1, 2, 3);
        run.due(1, "crews", 3, 6).due(2, "best");
        Run first = lamps("promise 22, the first is not 0");
        first.due(127, "open", 1, 1).due(0, "string", 0, 0, 80, 1, 1, 1).due(1, "string", 100, 0, 80, 1, 1, 1);
        first.due(8, "plan").due(2, "best");
        places(first, 1, 0);
    }

    /** That a string is hung in an order that was tried must be forgotten when the next one is. */
    private static void bestForgets() {
        Run run = lamps("promise 22, what was tried is forgotten");
        run.due(127, "open", 1, 1).due(127, "open", 2, 1).due(0, "string", 100, 0, 80, 1, 1, 1);
        run.due(1, "string", 201, 0, 80, 1, 1, 1).due(2, "string", 0, 0, 100, 1, 1, 1).due(8, "best");
        places(run, 0, 1, 2);
        run.due(3, "string", 0, 0, 20, 1, 1, 1).due(8, "best");
        places(run, 0, 1, 2, 3);
    }
}
