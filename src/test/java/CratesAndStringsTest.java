/** Promises 1 to 12. */
public final class CratesAndStringsTest {
    private static final int MIN = Integer.MIN_VALUE;
    private static final int MAX = Integer.MAX_VALUE;

    public static void main(String[] args) {
        newObject();
        crate();
        string();
        stringTakesLamps();
        fuse();
        dead();
        about();
        as();
        told();
        wrongInOrder();
        wrongSix();
        most();
        blow();
        blowFromTheGreatest();
        allStrings();
        fewest();
        fewestLessAsBits();
        fewestNone();
        fewestInDepth();
        fuses();
        Run.end();
    }

    private static void newObject() {
        Run run = new Run("promise 1");
        for (int what = 0; what <= 5; what++) {
            run.due(0, "count", what);
        }
        for (int k = 1; k <= 5; k++) {
            run.due(0, "found", k);
        }
        run.due(Run.BEYOND, "about", 0, 0).due(Run.BEYOND, "box", 0, 0);
        run.due(0, "blow").due(0, "fuses").due(0, "plan").due(1000, "most", 1000).due(50, "part", 50);
        for (int i = 0; i < 8; i++) {
            run.due(127, "open", i, 127).due(0, "front", i, 0);
        }
    }

    private static void crate() {
        Run run = new Run("promise 2");
        run.dueForEach(Run.BEYOND, 0, new int[] {0, -1, 1001, MIN, MAX}, "crate", 0);
        run.due(0, "crate", 1).due(1, "crate", 1000);
        for (int i = 2; i < 12; i++) {
            run.due(i, "crate", i);
        }
        run.due(Run.FULL, "crate", 5).due(Run.BEYOND, "crate", 1001);
        run.due(12, "count", 1).due(1066, "count", 5).due(1, "found", 4).due(6, "found", 1);
    }

    private static void string() {
        Run run = new Run("promise 3");
        run.due(0, "crate", 1000).due(1, "crate", 1000);
        run.due(Run.BEYOND, "string", 1, 0, 1, 1, 1, 1).due(Run.BEYOND, "string", 0, -1, 1, 1, 1, 1);
        run.due(0, "string", 720, 0, 100, 10, 60, 20);
        int[] wrongHows = {-1, -100, MIN, MAX, 2, 9, 30, 90, 800, 802, 1000, 731, 722};
        run.dueForEach(Run.BEYOND, 0, wrongHows, "string", 0, 0, 1, 1, 1, 1);
        run.dueForEach(Run.BEYOND, 1, new int[] {-1, 1, 2, MIN, MAX}, "string", 1, 0, 1, 1, 1, 1);
        run.dueForEach(Run.BEYOND, 1, new int[] {-1, 1, MIN, MAX}, "string", 0, 0, 1, 1, 1, 1);
        run.dueForEach(Run.BEYOND, 2, new int[] {0, -1, 101, MIN, MAX}, "string", 0, 0, 1, 1, 1, 1);
        run.dueForEach(Run.BEYOND, 3, new int[] {0, -1, 11, MIN, MAX}, "string", 0, 0, 1, 1, 1, 1);
        run.dueForEach(Run.BEYOND, 4, new int[] {0, -1, 61, MIN, MAX}, "string", 0, 0, 1, 1, 1, 1);
        run.dueForEach(Run.BEYOND, 5, new int[] {0, -1, 21, MIN, MAX}, "string", 0, 0, 1, 1, 1, 1);
        run.due(1, "count", 0).due(1940, "count", 5);
        run.due(1, "string", 1, 0, 1, 1, 1, 1).due(2, "string", 711, 1, 1, 1, 1, 1);
        for (int s = 3; s < 24; s++) {
            run.due(s, "string", 1, s - 1, 1, 1, 1, 1);
        }
        run.due(Run.FULL, "string", 0, 0, 1, 1, 1, 1).due(Run.BEYOND, "string", 1, 24, 1, 1, 1, 1);
        run.due(24, "count", 0).due(1917, "count", 5).due(1, "found", 4);
    }

    private static void stringTakesLamps() {
        Run run = new Run("promise 3, lamps");
        run.due(Run.STATE, "string", 0, 0, 1, 1, 1, 1).due(Run.BEYOND, "string", 0, 0, 1, 1, 0, 1);
        run.due(0, "crate", 3).due(1, "crate", 1).due(2, "crate", 2);
        run.due(Run.STATE, "string", 0, 0, 1, 1, 7, 1).due(6, "count", 5).due(0, "count", 0);
        run.due(0, "string", 0, 0, 1, 1, 5, 1);
        int[] from = {0, 0, 0, 1, 2};
        for (int p = 0; p < from.length; p++) {
            run.due(from[p], "lamp", 0, p);
        }
        run.due(Run.STATE, "string", 0, 0, 1, 1, 2, 1).due(1, "string", 0, 0, 1, 1, 1, 1).due(0, "count", 5);
        Run full = new Run("promise 3, STATE ahead of FULL");
        full.due(0, "crate", 24);
        for (int s = 0; s < 24; s++) {
            full.due(s, "string", 0, 0, 1, 1, 1, 1);
        }
        full.due(Run.STATE, "string", 0, 0, 1, 1, 1, 1).due(1, "crate", 1);
        full.due(Run.FULL, "string", 0, 0, 1, 1, 1, 1).due(Run.STATE, "string", 0, 0, 1, 1, 2, 1);
    }

    private static void fuse() {
        Run run = new Run("promise 4");
        run.due(Run.BEYOND, "fuse", 0, 1);
        run.due(0, "crate", 10).due(0, "string", 0, 0, 1, 1, 1, 1);
        run.due(0, "fuse", 0, 60000).due(60000, "fuse", 0, 1);
        run.dueForEach(Run.BEYOND, 1, new int[] {-1, 60001, MIN, MAX}, "fuse", 0, 0);
        run.dueForEach(Run.BEYOND, 0, new int[] {-1, 1, 24, MIN, MAX}, "fuse", 0, 7);
        run.due(1, "about", 0, 7).due(1, "fuse", 0, 0).due(0, "about", 0, 7);
    }

    private static void dead() {
        Run run = new Run("promise 5");
        run.due(Run.BEYOND, "dead", 0, 1);
        run.due(0, "crate", 20).due(0, "string", 0, 0, 1, 1, 9, 1).due(0, "about", 0, 8);
        run.dueForEach(Run.BEYOND, 1, new int[] {-1, 2, MIN, MAX}, "dead", 0, 0);
        run.dueForEach(Run.BEYOND, 0, new int[] {-1, 1, 24, MIN, MAX}, "dead", 0, 1);
        run.due(0, "dead", 0, 0).due(0, "dead", 0, 1).due(1, "about", 0, 8).due(8, "fault", 0, 1);
        run.due(5, "look", 0, 4, 0).due(1, "dead", 0, 1).due(4, "fault", 0, 1).due(1, "dead", 0, 0);
        run.due(Run.STATE, "fault", 0, 1).due(0, "dead", 0, 1).due(8, "fault", 0, 1).due(0, "fault", 0, 0);
    }

    private static void about() {
        Run run = new Run("promise 6");
        run.due(Run.BEYOND, "about", 0, 0);
        run.due(0, "crate", 1000).due(0, "string", 510, 0, 77, 9, 33, 13).due(1, "string", 721, 0, 78, 8, 34, 14);
        run.due(0, "fuse", 1, 4321).due(0, "dead", 0, 1);
        int[][] want = {{1, -1, 5, 77, 9, 33, 13, 0, 1, 1}, {2, 0, 7, 78, 8, 34, 14, 4321, 0, 1}};
        for (int s = 0; s < 2; s++) {
            for (int what = 0; what <= 9; what++) {
                run.due(want[s][what], "about", s, what);
            }
        }
        run.dueForEach(Run.BEYOND, 1, new int[] {-1, 10, MIN, MAX}, "about", 0, 0);
        run.dueForEach(Run.BEYOND, 0, new int[] {-1, 2, 24, MIN, MAX}, "about", 0, 0);
        run.due(0, "dead", 1, 1).due(1, "dead", 0, 0).due(0, "about", 0, 9).due(1, "about", 1, 9);
        run.due(1, "dead", 1, 0).due(0, "about", 1, 9);
    }

    private static void as() {
        Run run = new Run("promise 7");
        run.due(Run.BEYOND, "as", 0, 0);
        run.due(0, "crate", 100).due(0, "string", 0, 0, 1, 1, 3, 5);
        run.due(1, "string", 10, 0, 1, 1, 4, 5).due(2, "string", 20, 0, 1, 1, 6, 5);
        int[][] want = {{15, Run.KIND, Run.KIND}, {20, 20, Run.KIND}, {60, Run.KIND, 60}};
        for (int s = 0; s < 3; s++) {
            for (int kind = 0; kind < 3; kind++) {
                run.due(want[s][kind], "as", s, kind);
            }
        }
        run.dueForEach(Run.BEYOND, 1, new int[] {-1, 3, MIN, MAX}, "as", 0, 0);
        run.dueForEach(Run.BEYOND, 0, new int[] {-1, 3, 24, MIN, MAX}, "as", 0, 1);
        run.due(0, "dead", 2, 1).due(60, "as", 2, 2).due(4, "found", 5);
    }

    /** A string and two on it, a sign on the second of these. */
    private static Run town(String name) {
        Run run = new Run(name);
        run.due(0, "crate", 1000).due(0, "string", 0, 0, 33, 3, 10, 10).due(1, "string", 1, 0, 7, 1, 5, 3);
        return run.due(2, "string", 11, 0, 9, 2, 7, 11).due(3, "string", 21, 2, 100, 10, 9, 1);
    }

    private static void told() {
        Run run = town("promise 8");
        int[][] want = {{210, 210, 231}, {15, 15, 241}, {95, 95, 273}, {18, 18, 291}};
        for (int s = 0; s < 4; s++) {
            for (int what = 0; what < 3; what++) {
                run.due(want[s][what], "told", s, what);
            }
        }
        run.due(0, "dead", 2, 1);
        int[] current = {115, 15, 0, 0};
        for (int s = 0; s < 4; s++) {
            run.due(current[s], "told", s, 0).due(want[s][1], "told", s, 1).due(want[s][2], "told", s, 2);
        }
        run.due(0, "dead", 0, 1).due(0, "told", 0, 0).due(0, "told", 1, 0).due(210, "told", 0, 1);
        run.dueForEach(Run.BEYOND, 1, new int[] {-1, 4, MIN, MAX}, "told", 0, 0);
        run.dueForEach(Run.BEYOND, 0, new int[] {-1, 4, 24, MIN, MAX}, "told", 0, 0);
    }

    /** A wet string that all is wrong with, then less and less. */
    private static void wrongInOrder() {
        Run run = new Run("promise 8, WRONG");
        run.due(0, "crate", 1000).due(0, "string", 0, 0, 1, 10, 1, 1).due(1, "string", 11, 0, 100, 1, 60, 10);
        run.due(2, "told", 1, 3).due(0, "fuse", 1, 599).due(1, "told", 1, 3);
        run.due(599, "fuse", 1, 600).due(2, "told", 1, 3);
        Run dry = new Run("promise 8, WRONG of a dry one");
        dry.due(0, "crate", 1000).due(0, "string", 0, 0, 100, 1, 60, 10);
        dry.due(0, "fuse", 0, 599).due(1, "told", 0, 3).due(599, "fuse", 0, 600).due(3, "told", 0, 3);
        dry.due(1000, "most", 6000).due(4, "told", 0, 3).due(6000, "most", 5999).due(3, "told", 0, 3);
        dry.due(5999, "most", 6000).due(600, "fuse", 0, 0).due(5, "told", 0, 3);
        dry.due(1, "string", 0, 0, 1, 1, 50, 10).due(0, "fuse", 1, 500).due(0, "told", 1, 3);
        dry.due(500, "fuse", 1, 501).due(4, "told", 1, 3);
        dry.due(2, "string", 10, 0, 1, 2, 50, 10).due(2, "told", 2, 3).due(0, "fuse", 2, 500).due(0, "told", 2, 3);
        dry.due(500, "fuse", 2, 501).due(2, "told", 2, 3).due(501, "fuse", 2, 499).due(1, "told", 2, 3);
        dry.due(0, "dead", 2, 1).due(1, "told", 2, 3);
    }

    private static void wrongSix() {
        Run run = new Run("promise 8, WRONG 5 and 6");
        run.due(0, "crate", 1000).due(0, "string", 0, 0, 1, 10, 1, 1).due(1, "string", 1, 0, 1, 5, 1, 1);
        run.due(2, "string", 1, 1, 1, 2, 1, 1);
        run.due(5, "told", 0, 3).due(5, "told", 2, 3).due(0, "fuse", 0, 1001).due(0, "told", 0, 3);
        run.due(0, "told", 1, 3).due(6, "told", 2, 3).due(1001, "fuse", 0, 1000).due(0, "told", 2, 3);
        run.due(1000, "fuse", 0, 5000).due(0, "fuse", 1, 1000).due(0, "told", 1, 3).due(0, "told", 2, 3);
        run.due(1000, "fuse", 1, 1001).due(6, "told", 2, 3).due(5000, "fuse", 0, 0).due(6, "told", 2, 3);
        run.due(5, "told", 0, 3).due(0, "told", 1, 3).due(1001, "fuse", 1, 0).due(0, "fuse", 0, 1);
        run.due(1, "told", 0, 3).due(0, "told", 1, 3).due(0, "told", 2, 3);
    }

    private static void most() {
        Run run = new Run("promise 9");
        run.due(1000, "most", 0).due(0, "most", 100000);
        run.dueForEach(Run.BEYOND, 0, new int[] {-1, 100001, MIN, MAX}, "most", 0);
        run.due(100000, "most", 5).due(5, "most", 5);
    }

    private static void blow() {
        Run run = town("promise 10");
        run.due(0, "blow").due(0, "fuse", 0, 210).due(0, "blow").due(210, "fuse", 0, 209).due(1, "blow");
        run.due(1, "about", 0, 8).due(0, "about", 1, 8).due(4, "count", 3).due(0, "blow");
        run.due(1, "dead", 0, 0).due(0, "dead", 1, 1).due(0, "blow").due(1, "count", 2);
        Run again = new Run("promise 10, FIRST and LAST");
        again.due(0, "crate", 100).due(0, "string", 0, 0, 1, 1, 8, 2).due(0, "fuse", 0, 15).due(0, "dead", 0, 1);
        again.due(2, "look", 0, 5, 1).due(0, "blow").due(6, "fault", 0, 0).due(1, "dead", 0, 0).due(1, "blow");
        again.due(0, "fault", 0, 0).due(7, "fault", 0, 1);
    }

    /** The branch of the greatest number goes first, which saves the string above it. */
    private static void blowFromTheGreatest() {
        Run run = town("promise 10, the greatest number");
        run.due(0, "fuse", 0, 200).due(0, "fuse", 3, 17).due(1, "blow").due(1, "about", 3, 8).due(0, "about", 0, 8);
        run.due(192, "told", 0, 0);
        Run both = town("promise 10, one after the other");
        both.due(0, "fuse", 0, 100).due(0, "fuse", 1, 14).due(0, "fuse", 3, 1).due(3, "blow");
        both.due(1, "about", 0, 8).due(1, "about", 1, 8).due(0, "about", 2, 8).due(1, "about", 3, 8).due(4, "count", 3);
    }

    /** The greatest that any call has to reckon with: as many strings as there may be. */
    private static void allStrings() {
        Run run = new Run("promises 8, 10 and 11, 24 strings");
        for (int c = 0; c < 12; c++) {
            run.due(c, "crate", 1000);
        }
        for (int s = 0; s < 24; s++) {
            run.due(s, "string", 20, 0, 1, 1, 1, 1);
        }
        run.due(24, "fewest", 0).due((1 << 24) - 1, "fewest", 1).due(1 << 23, "explain", 1 << 23);
        for (int s = 0; s < 24; s++) {
            run.due(0, "fuse", s, 1);
        }
        run.due(24, "blow").due(24, "count", 2).due(24, "fuses").due(2, "about", 23, 7);
        Run deep = new Run("promise 8, 24 strings, each on the one before");
        for (int c = 0; c < 12; c++) {
            deep.due(c, "crate", 1000);
        }
        deep.due(0, "string", 20, 0, 100, 1, 60, 20);
        int fall = 0;
        for (int s = 1; s < 24; s++) {
            deep.due(s, "string", 21, s - 1, 100, 1, 60, 20);
        }
        for (int s = 0; s < 24; s++) {
            int worst = 2400 * (24 - s);
            fall += 10 * worst;
            deep.due(worst, "told", s, 0).due(worst, "told", s, 1).due(fall, "told", s, 2);
        }
        deep.due(1, "explain", (1 << 24) - 1).due(0, "dead", 0, 1).due(24, "count", 3).due(0, "told", 23, 0);
    }

    private static void fewest() {
        Run run = new Run("promise 11");
        run.due(0, "fewest", 0).due(0, "fewest", 1);
        run.dueForEach(Run.BEYOND, 0, new int[] {-1, 2, MIN, MAX}, "fewest", 0);
        run.due(0, "crate", 1000).due(0, "string", 0, 0, 1, 4, 60, 10);
        run.due(1, "fewest", 0).due(1, "fewest", 1);
        run.due(1, "string", 1, 0, 1, 1, 10, 10).due(2, "fewest", 0).due(3, "fewest", 1);
        run.due(2, "string", 1, 0, 1, 2, 10, 10).due(3, "string", 11, 2, 1, 10, 1, 1).due(3, "fewest", 0);
        run.due(11, "fewest", 1).due(0, "fuse", 2, 7).due(0, "dead", 0, 1).due(11, "fewest", 1);
        run.due(0, "found", 2).due(7, "about", 2, 7).due(4, "string", 0, 0, 1, 10, 1, 1).due(27, "fewest", 1);
    }

    /** Fuses at 1 or at 2 would both guard the thin wire of 2: 1 is less as bits. */
    private static void fewestLessAsBits() {
        Run run = new Run("promise 11, less as bits");
        run.due(0, "crate", 1000).due(0, "string", 0, 0, 1, 10, 60, 10).due(1, "string", 1, 0, 1, 10, 10, 10);
        run.due(2, "string", 1, 1, 1, 1, 10, 10).due(2, "fewest", 0).due(3, "fewest", 1);
        run.due(3, "string", 1, 1, 1, 1, 10, 10).due(2, "fewest", 0).due(3, "fewest", 1);
        run.due(4, "string", 1, 1, 1, 1, 30, 10).due(4, "fewest", 0).due(29, "fewest", 1);
    }

    private static void fewestNone() {
        Run wet = new Run("promise 11, NONE for a wet one");
        wet.due(0, "crate", 1000).due(0, "string", 10, 0, 1, 10, 50, 10).due(1, "fewest", 0);
        wet.due(1, "string", 1, 0, 1, 10, 1, 1).due(Run.NONE, "fewest", 0).due(Run.NONE, "fewest", 1);
        wet.due(Run.BEYOND, "fewest", 2).due(2, "found", 2);
        Run thin = new Run("promise 11, NONE for a thin one");
        thin.due(0, "crate", 1000).due(0, "string", 0, 0, 1, 1, 50, 10).due(1, "fewest", 0);
        thin.due(1, "string", 1, 0, 1, 10, 1, 1).due(Run.NONE, "fewest", 0);
        thin.due(2, "string", 0, 0, 1, 1, 60, 10).due(Run.NONE, "fewest", 0);
        thin.due(3, "string", 0, 0, 1, 1, 60, 10).due(Run.NONE, "fewest", 1);
    }

    /** Wires that bear just the fuse above them; then a little more hangs on, and they need fuses of their own. */
    private static void fewestInDepth() {
        Run run = new Run("promise 11, in depth");
        run.due(0, "crate", 1000).due(0, "string", 0, 0, 1, 10, 60, 10).due(1, "string", 1, 0, 1, 3, 40, 10);
        run.due(2, "string", 1, 1, 1, 2, 50, 10).due(3, "string", 1, 2, 1, 2, 10, 10);
        run.due(4, "string", 1, 0, 1, 4, 40, 10).due(3, "fewest", 1).due(2, "fewest", 0);
        run.due(5, "string", 1, 3, 1, 1, 10, 1).due(5, "fewest", 0).due(31, "fewest", 1);
        run.due(6, "string", 11, 3, 1, 1, 1, 1).due(6, "fewest", 0).due(95, "fewest", 1);
    }

    private static void fuses() {
        Run run = new Run("promise 12");
        run.due(0, "fuses");
        run.due(0, "crate", 1000).due(0, "string", 0, 0, 1, 4, 60, 10).due(1, "string", 1, 0, 1, 4, 10, 10);
        run.due(2, "string", 1, 1, 1, 1, 20, 10).due(0, "fuse", 1, 77).due(0, "dead", 2, 1).due(2, "fuses");
        run.due(900, "about", 0, 7).due(300, "about", 1, 7).due(0, "about", 2, 7);
        run.due(300, "fuse", 1, 5).due(3, "string", 11, 2, 1, 10, 60, 20).due(Run.NONE, "fuses");
        run.due(900, "about", 0, 7).due(5, "about", 1, 7).due(0, "about", 2, 7).due(1, "found", 2);
    }
}
