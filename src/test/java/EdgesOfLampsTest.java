/** The boundary cases of promises 26 to 28; a test for each sentence. */
public final class EdgesOfLampsTest {
    private static final int[] NO_STRING_OF_ONE = {-1, 1, 23, 24, Run.MIN, Run.MAX};

    public static void main(String[] args) {
        lampNoSuchString();
        lampNoSuchLamp();
        lampOfTheLastCrate();
        replaceNoSuchString();
        replaceNoSuchLamp();
        replaceNoneLeft();
        replaceBeyondAheadOfState();
        replaceAsStringsTake();
        replaceFaulty();
        replaceRefusedSpoilsNothing();
        boxNoSuchCrate();
        boxWhat();
        boxEmptyAndFull();
        boxHangNow();
        Run.end();
    }

    private static void lampNoSuchString() {
        Run run = new Run("promise 26: BEYOND: there is no such STRING").withLamps().due(Run.BEYOND, "lamp", 0, 0);
        run.withRow(1).dueForEach(Run.BEYOND, 0, NO_STRING_OF_ONE, "lamp", 0, 0).due(0, "lamp", 0, 0);
        Run full = new Run("promise 26: the last STRING").withLamps().withRow(24).due(0, "lamp", 23, 0);
        full.due(Run.BEYOND, "lamp", 24, 0);
    }

    private static void lampNoSuchLamp() {
        Run run = new Run("promise 26: BEYOND: there is no such lamp").withLamps().due(0, "string", 0, 0, 1, 1, 1, 1);
        run.due(1, "string", 0, 0, 1, 1, 60, 1).due(2, "string", 0, 0, 1, 1, 5, 1);
        run.dueForEach(Run.BEYOND, 1, Run.beside(0, 0), "lamp", 0, 0).due(0, "lamp", 0, 0);
        run.dueForEach(Run.BEYOND, 1, Run.beside(0, 59), "lamp", 1, 0).due(0, "lamp", 1, 0).due(0, "lamp", 1, 59);
        run.dueForEach(Run.BEYOND, 1, Run.beside(0, 4), "lamp", 2, 0).due(0, "lamp", 2, 4);
    }

    private static void lampOfTheLastCrate() {
        Run run = new Run("promise 26: the last CRATE, the last lamp of the last STRING");
        for (int crate = 0; crate < 12; crate++) {
            run.due(crate, "crate", crate == 11 ? 1 : crate == 0 ? 1000 : 43);
        }
        for (int s = 0; s < 23; s++) {
            run.due(s, "string", 0, 0, 1, 1, 60, 1);
        }
        run.due(51, "count", 5).due(23, "string", 0, 0, 1, 1, 51, 1).due(0, "count", 5).due(11, "lamp", 23, 50);
        run.due(10, "lamp", 23, 49).due(0, "lamp", 16, 39).due(1, "lamp", 16, 40).due(Run.STATE, "replace", 23, 50);
    }

    private static void replaceNoSuchString() {
        Run run = new Run("promise 27: BEYOND: there is no such STRING").withLamps().due(Run.BEYOND, "replace", 0, 0);
        run.withRow(1).dueForEach(Run.BEYOND, 0, NO_STRING_OF_ONE, "replace", 0, 0).due(0, "box", 0, 2);
        run.due(11999, "count", 5);
        Run full = new Run("promise 27: the last STRING").withLamps().withRow(24).due(0, "replace", 23, 0);
        full.due(Run.BEYOND, "replace", 24, 0).due(1, "box", 0, 2);
    }

    private static void replaceNoSuchLamp() {
        Run run = new Run("promise 27: BEYOND: there is no such lamp").withLamps().due(0, "string", 0, 0, 1, 1, 60, 1);
        run.due(1, "string", 0, 0, 1, 1, 3, 1).dueForEach(Run.BEYOND, 1, Run.beside(0, 59), "replace", 0, 0);
        run.dueForEach(Run.BEYOND, 1, Run.beside(0, 2), "replace", 1, 0).due(0, "box", 0, 2).due(0, "replace", 0, 0);
        run.due(0, "replace", 0, 59).due(0, "replace", 1, 2).due(3, "box", 0, 2);
    }

    private static void replaceNoneLeft() {
        Run run = new Run("promise 27: STATE: CRATES have none left").due(0, "crate", 3).due(0, "string", 0, 0, 1, 1, 2, 1);
        run.due(0, "replace", 0, 0).due(Run.STATE, "replace", 0, 0).due(Run.STATE, "replace", 0, 1);
        run.due(1, "crate", 1).due(1, "replace", 0, 0).due(Run.STATE, "replace", 0, 0);
    }

    private static void replaceBeyondAheadOfState() {
        Run run = new Run("promise 27: BEYOND ahead of STATE").due(0, "crate", 1).withRow(1);
        run.due(Run.BEYOND, "replace", 0, 1).due(Run.BEYOND, "replace", 1, 0).due(0, "found", 3);
        run.due(Run.STATE, "replace", 0, 0);
    }

    private static void replaceAsStringsTake() {
        Run run = new Run("promise 27: a lamp as STRINGS take them").due(0, "crate", 2).due(1, "crate", 2);
        run.due(0, "string", 0, 0, 1, 1, 1, 1).due(0, "replace", 0, 0).due(1, "replace", 0, 0).due(1, "lamp", 0, 0);
        run.due(2, "crate", 5).due(1, "replace", 0, 0).due(2, "replace", 0, 0).due(2, "lamp", 0, 0);
        run.due(4, "count", 5);
    }

    private static void replaceFaulty() {
        Run run = new Run("promise 27: the old one's CRATE has one FAULTY more").due(0, "crate", 2).due(1, "crate", 9);
        run.due(0, "string", 0, 0, 1, 1, 2, 1).due(1, "replace", 0, 1).due(1, "box", 0, 2).due(0, "box", 1, 2);
        run.due(1, "replace", 0, 1).due(1, "box", 0, 2).due(1, "box", 1, 2).due(1, "replace", 0, 0).due(2, "box", 0, 2);
        run.due(0, "box", 0, 3);
    }

    private static void replaceRefusedSpoilsNothing() {
        Run run = new Run("promise 27: refused, no lamp is FAULTY").due(0, "crate", 1).withRow(1);
        run.due(Run.STATE, "replace", 0, 0).due(0, "lamp", 0, 0).dueRowOf(0, "box", 1, 0, 0, 1);
    }

    private static void boxNoSuchCrate() {
        Run run = new Run("promise 28: BEYOND: there is no such one").due(Run.BEYOND, "box", 0, 0).due(0, "crate", 7);
        for (int what = 0; what < 4; what++) {
            run.dueForEach(Run.BEYOND, 0, new int[] {-1, 1, 11, 12, Run.MIN, Run.MAX}, "box", 0, what);
        }
        Run full = new Run("promise 28: the last CRATE").withLamps().dueRowOf(11, "box", 1000, 1000, 0, 0);
        full.due(Run.BEYOND, "box", 12, 0);
    }

    private static void boxWhat() {
        Run run = new Run("promise 28: BEYOND: another what (0 .. 3)").due(0, "crate", 7);
        run.due(0, "string", 0, 0, 1, 1, 2, 1).dueForEach(Run.BEYOND, 1, Run.beside(0, 3), "box", 0, 0);
        run.due(0, "replace", 0, 0).dueRowOf(0, "box", 7, 4, 1, 2);
    }

    private static void boxEmptyAndFull() {
        Run run = new Run("promise 28: how many are left").due(0, "crate", 1).due(1, "crate", 60);
        run.dueRowOf(0, "box", 1, 1, 0, 0).dueRowOf(1, "box", 60, 60, 0, 0).due(0, "string", 0, 0, 1, 1, 60, 1);
        run.dueRowOf(0, "box", 1, 0, 0, 1).dueRowOf(1, "box", 60, 1, 0, 59).due(1, "string", 0, 0, 1, 1, 1, 1);
        run.dueRowOf(1, "box", 60, 0, 0, 60);
    }

    private static void boxHangNow() {
        Run run = new Run("promise 28: how many of its lamps hang now").due(0, "crate", 1).due(1, "crate", 2).withRow(1);
        run.due(1, "box", 0, 3).due(1, "replace", 0, 0).due(0, "box", 0, 3).due(1, "box", 1, 3);
        run.due(1, "replace", 0, 0).due(1, "box", 1, 3).due(1, "box", 1, 2).due(0, "box", 1, 1);
    }
}
