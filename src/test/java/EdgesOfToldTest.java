/** The boundary cases of promises 29 to 32 and of what the Terms say of findings; a test for each sentence. */
public final class EdgesOfToldTest {
    public static void main(String[] args) {
        tellNone();
        tellFull();
        tellAnyNumber();
        checkNoneWait();
        checkTheyAre();
        checkFirstThatIsNot();
        checkMissing();
        checkMore();
        checkAll();
        checkNone();
        checkNoneDoThen();
        countWhat();
        countNothing();
        countGreatest();
        foundNumbers();
        foundCountedToo();
        foundEachKind();
        findingsAreLow();
        as512Calls();
        Run.end();
    }

    /** A row of so many strings on the main: the fuses are at all of them. */
    private static Run row(String name, int strings) {
        return new Run(name).withLamps().withRow(strings);
    }

    private static Run tell(Run run, int... numbers) {
        for (int i = 0; i < numbers.length; i++) {
            run.due(i + 1, "tell", numbers[i]);
        }
        return run;
    }

    private static void tellNone() {
        new Run("promise 29: none wait at first").due(0, "count", 4).due(1, "tell", 0).due(1, "count", 4);
    }

    private static void tellFull() {
        Run run = new Run("promise 29: FULL: 24 wait");
        for (int i = 1; i <= 24; i++) {
            run.due(i, "tell", 7);
        }
        run.due(Run.FULL, "tell", 7).due(Run.FULL, "tell", 0).due(24, "count", 4).due(99, "check").due(0, "count", 4);
        run.due(1, "tell", 7);
    }

    private static void tellAnyNumber() {
        Run run = tell(row("promise 29: any number waits", 1), Run.MIN, Run.MAX, -1, 0, 24);
        run.due(5, "count", 4).due(1, "check").due(0, "found", 1);
    }

    private static void checkNoneWait() {
        Run run = new Run("promise 30: none wait, and the set is empty").due(0, "check").due(1, "tell", 0).due(99, "check");
        run.withLamps().withRow(1).due(1, "check");
    }

    private static void checkTheyAre() {
        tell(row("promise 30: 0 if they are", 3), 0, 1, 2).due(0, "check");
        tell(row("promise 30: 0 if they are: one", 1), 0).due(0, "check");
    }

    private static void checkFirstThatIsNot() {
        Run run = row("promise 30: 1 and i for the first (from 0 on) that isn't", 3);
        tell(run, 1, 1, 2).due(1, "check");
        tell(run, 0, 2, 1).due(2, "check");
        tell(run, 0, 1, 3).due(3, "check");
        tell(run, 0, 1, Run.MIN).due(3, "check");
        tell(run, 2, 1, 0).due(1, "check");
        tell(run, 0, 0, 1, 2).due(2, "check");
        tell(run, 0, 1, 2).due(0, "check");
    }

    private static void checkMissing() {
        Run run = row("promise 30: 1 and i for the first that is missing", 3).due(1, "check");
        tell(run, 0).due(2, "check");
        tell(run, 0, 1).due(3, "check");
    }

    private static void checkMore() {
        Run run = row("promise 30: 99 if more were told", 3);
        tell(run, 0, 1, 2, 3).due(99, "check");
        tell(run, 0, 1, 2, 2, 2).due(99, "check");
        tell(run, 0, 1, 3, 2).due(3, "check");
    }

    private static void checkAll() {
        Run run = row("promise 30: 24 STRINGS, 24 numbers", 24);
        int[] all = new int[24];
        for (int s = 0; s < 24; s++) {
            all[s] = s;
        }
        tell(run, all).due(Run.FULL, "tell", 24).due(0, "check");
        all[23] = 24;
        tell(run, all).due(24, "check");
        Run missing = row("promise 30: 24 STRINGS, 23 numbers", 24);
        for (int s = 0; s < 23; s++) {
            missing.due(s + 1, "tell", s);
        }
        missing.due(24, "check");
        Run more = new Run("promise 30: one in the set, 24 numbers").withLamps().withChain(24);
        for (int s = 0; s < 24; s++) {
            more.due(s + 1, "tell", s);
        }
        more.due(99, "check");
    }

    private static void checkNone() {
        Run run = row("promise 30: NONE: there is no such set (they are gone, too)", 2);
        run.due(2, "string", 0, 0, 1, 1, 60, 20).due(Run.NONE, "check");
        tell(run, 0, 1, 2).due(Run.NONE, "check").due(0, "count", 4);
        tell(run, 5).due(Run.NONE, "check").due(0, "count", 4);
    }

    private static void checkNoneDoThen() {
        Run run = row("promise 30: the numbers that wait (none do then)", 1);
        tell(run, 0).due(0, "check").due(0, "count", 4).due(1, "check");
        tell(run, 1).due(1, "check").due(0, "count", 4);
        tell(run, 0, 1).due(99, "check").due(0, "count", 4);
        tell(run, 0).due(0, "check");
    }

    private static void countWhat() {
        Run run = row("promise 31: BEYOND: another what (0 .. 5)", 2).due(0, "dead", 0, 1);
        run.dueForEach(Run.BEYOND, 0, Run.beside(0, 5), "count", 0).dueRow("count", 2, 12, 1, 1, 0, 11998);
    }

    private static void countNothing() {
        Run run = new Run("promise 31: nothing to count").dueRow("count", 0, 0, 0, 0, 0, 0).due(0, "crate", 1).withRow(1);
        run.dueRow("count", 1, 1, 0, 0, 0, 0);
    }

    private static void countGreatest() {
        Run run = new Run("promise 31: as many as there may be").withLamps().due(12000, "count", 5).withRow(24);
        for (int s = 0; s < 24; s++) {
            run.due(0, "dead", s, 1).due(s + 1, "tell", s);
        }
        run.dueRow("count", 24, 12, 24, 24, 24, 11976);
    }

    private static void foundNumbers() {
        Run run = new Run("promise 32: BEYOND: another k (1 .. 5)");
        run.due(0, "found", 1).due(0, "found", 2).due(0, "found", 3).due(0, "found", 4).due(0, "found", 5);
        run.dueForEach(Run.BEYOND, 0, Run.beside(1, 5), "found", 0).due(0, "found", 5).due(4, "found", 1);
    }

    private static void foundCountedToo() {
        Run run = new Run("promise 32: another k (counted, too)").due(Run.BEYOND, "found", 0).due(1, "found", 1);
        run.due(Run.BEYOND, "found", 6).due(2, "found", 1).due(2, "found", 1);
        run.due(0, "found", 2).due(0, "found", 3).due(0, "found", 4).due(0, "found", 5);
    }

    private static void foundEachKind() {
        Run run = row("promise 32: how many acts have answered a finding LOW - k", 7);
        run.due(Run.KIND, "as", 0, 1).due(Run.KIND, "as", 0, 2).due(Run.STATE, "best").due(Run.FULL, "crate", 1);
        run.due(0, "dead", 0, 1).due(Run.NONE, "look", 0, 0, 1).due(Run.STATE, "next", 1).due(Run.STATE, "fault", 1, 0);
        run.due(0, "found", 1).due(1, "found", 2).due(3, "found", 3).due(1, "found", 4).due(2, "found", 5);
    }

    private static void findingsAreLow() {
        Run run = new Run("Terms: LOW is -1000000000; LOW - 1 BEYOND, .. LOW - 5 KIND");
        run.due(-1000000001, "crate", 0).due(-1000000003, "string", 0, 0, 1, 1, 1, 1).withLamps();
        run.due(-1000000004, "crate", 1).withRow(1).due(-1000000005, "as", 0, 1).due(0, "dead", 0, 1);
        run.due(-1000000002, "next", 0);
    }

    private static void as512Calls() {
        Run run = new Run("at most 512 calls").withLamps().withRow(24);
        for (int call = 37; call < 512; call++) {
            run.due(call - 37 < 24 ? 0 : (call - 37) / 24 * 100, "fuse", (call - 37) % 24, ((call - 37) / 24 + 1) * 100);
        }
        run.due(24, "count", 0);
    }
}
