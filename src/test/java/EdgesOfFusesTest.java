/** The boundary cases of promises 8 to 12 and of what the Terms say of branches and fuses; a test for each sentence. */
public final class EdgesOfFusesTest {
    private static final int[] NO_STRING_OF_ONE = {-1, 1, 23, 24, Run.MIN, Run.MAX};
    private static final int ALL = (1 << 24) - 1;

    public static void main(String[] args) {
        toldWhat();
        toldNoSuchString();
        currentOfDark();
        currentGreatest();
        worstIfNoneWereDead();
        fallIsCut();
        fallIsCutAtEachString();
        fallGreatest();
        wrongOne();
        wrongTwo();
        wrongThree();
        wrongFour();
        wrongFive();
        wrongSix();
        wrongTheFirstOf();
        mostNumbers();
        mostAtFirst();
        mostAndGreatFalls();
        blowBelowCurrent();
        blowNoFuse();
        blowDarkOnes();
        blowGreatestNumber();
        blowCounts();
        blowAll();
        blowAnew();
        fewestWhat();
        fewestNoStrings();
        fewestBeyondAheadOfNone();
        fewestWetInTheSet();
        fewestWetWorst();
        fewestOwnWire();
        fewestWireBelow();
        fewestNearest();
        fewestOnTheMain();
        fewestLessAsBits();
        fewestAll();
        fewestSeveralWithoutAWay();
        fusesNone();
        fusesNoStrings();
        fusesOfAllOthers();
        fusesJustWorst();
        Run.end();
    }

    private static Run town(String name) {
        return new Run(name).withLamps();
    }

    private static void toldWhat() {
        Run run = town("promise 8: BEYOND: another what (0 .. 3)").due(0, "string", 0, 0, 100, 1, 2, 3);
        run.dueForEach(Run.BEYOND, 1, Run.beside(0, 3), "told", 0, 0).dueRowOf(0, "told", 6, 6, 60, 5);
    }

    private static void toldNoSuchString() {
        Run run = town("promise 8: BEYOND: there is no such one").due(Run.BEYOND, "told", 0, 0).withRow(1);
        for (int what = 0; what < 4; what++) {
            run.dueForEach(Run.BEYOND, 0, NO_STRING_OF_ONE, "told", 0, what);
        }
        town("promise 8: the last STRING").withRow(24).due(1, "told", 23, 0).due(Run.BEYOND, "told", 24, 0);
    }

    private static void currentOfDark() {
        Run run = town("Terms 1: CURRENT: 0 if it is DARK").withChain(3).due(3, "told", 0, 0).due(0, "dead", 1, 1);
        run.due(1, "told", 0, 0).due(0, "told", 1, 0).due(0, "told", 2, 0).due(0, "dead", 0, 1).due(0, "told", 0, 0);
        run.due(1, "dead", 0, 0).due(1, "dead", 1, 0).due(3, "told", 0, 0).due(1, "told", 2, 0);
    }

    /** As many signs as there may be, each as great as may be, and each on the one before. */
    private static Run greatestTown(String name) {
        Run run = town(name).due(0, "string", 20, 0, 100, 1, 60, 20);
        for (int s = 1; s < 24; s++) {
            run.due(s, "string", 21, s - 1, 100, 1, 60, 20);
        }
        return run;
    }

    private static void currentGreatest() {
        Run run = greatestTown("Terms 1: CURRENT of 24 STRINGS").due(57600, "told", 0, 0).due(57600, "told", 0, 1);
        run.due(2400, "told", 23, 0).due(0, "dead", 23, 1).due(55200, "told", 0, 0).due(57600, "told", 0, 1);
        run.due(0, "fuse", 0, 57600).due(1, "dead", 23, 0).due(0, "blow").due(57600, "fuse", 0, 57599).due(1, "blow");
    }

    private static void worstIfNoneWereDead() {
        Run run = town("Terms 1: WORST: CURRENT if none were DEAD").withChain(3).due(0, "dead", 0, 1).due(0, "dead", 2, 1);
        run.due(3, "told", 0, 1).due(2, "told", 1, 1).due(1, "told", 2, 1);
    }

    private static void fallIsCut() {
        Run run = town("Terms 1: FALL: LENGTH times WORST, by 10 times its WIRE, cut");
        run.due(0, "string", 0, 0, 9, 1, 1, 1).due(1, "string", 0, 0, 10, 1, 1, 1).due(2, "string", 0, 0, 99, 10, 1, 1);
        run.due(3, "string", 0, 0, 100, 10, 1, 1).due(4, "string", 0, 0, 19, 1, 1, 1).due(5, "string", 0, 0, 1, 10, 1, 1);
        run.due(0, "told", 0, 2).due(1, "told", 1, 2).due(0, "told", 2, 2).due(1, "told", 3, 2).due(1, "told", 4, 2);
        run.due(0, "told", 5, 2);
    }

    private static void fallIsCutAtEachString() {
        Run run = town("Terms 1: FALL: that of its UP (of the MAIN 0), and its own");
        run.due(0, "string", 0, 0, 9, 1, 1, 1).due(1, "string", 1, 0, 9, 1, 1, 1).due(2, "string", 1, 1, 10, 1, 1, 1);
        run.due(3, "string", 0, 0, 10, 1, 1, 1).due(2, "told", 0, 2).due(3, "told", 1, 2).due(4, "told", 2, 2);
        run.due(1, "told", 3, 2);
    }

    private static void fallGreatest() {
        greatestTown("Terms 1: FALL of 24 STRINGS").due(576000, "told", 0, 2).due(7200000, "told", 23, 2);
    }

    private static void wrongOne() {
        Run run = town("Terms 1: WRONG 1 it has a FUSE, and WORST is above it").due(0, "string", 0, 0, 1, 1, 50, 10);
        run.due(0, "fuse", 0, 499).due(1, "told", 0, 3).due(499, "fuse", 0, 500).due(0, "told", 0, 3);
        run.due(500, "fuse", 0, 1).due(1, "told", 0, 3).due(0, "dead", 0, 1).due(1, "told", 0, 3);
        run.due(1, "fuse", 0, 0).due(5, "told", 0, 3);
    }

    private static void wrongTwo() {
        Run run = town("Terms 1: WRONG 2 it is WET and has no FUSE, or one above 500");
        run.due(0, "string", 10, 0, 1, 2, 1, 1).due(2, "told", 0, 3).due(0, "fuse", 0, 500).due(0, "told", 0, 3);
        run.due(500, "fuse", 0, 501).due(2, "told", 0, 3).due(501, "fuse", 0, 1).due(0, "told", 0, 3);
        run.due(1, "string", 20, 0, 1, 2, 1, 1).due(0, "fuse", 1, 501).due(0, "told", 1, 3);
        run.due(2, "string", 0, 0, 1, 2, 1, 1).due(0, "fuse", 2, 501).due(0, "told", 2, 3);
        run.due(3, "string", 11, 2, 1, 10, 1, 1).due(2, "told", 3, 3);
    }

    private static void wrongThree() {
        Run run = town("Terms 1: WRONG 3 its FALL is above MOST").due(0, "string", 0, 0, 10, 1, 1, 7).due(0, "fuse", 0, 7);
        run.due(1000, "most", 7).due(0, "told", 0, 3).due(7, "most", 6).due(3, "told", 0, 3).due(6, "most", 8);
        run.due(0, "told", 0, 3).due(1, "string", 0, 0, 1, 1, 1, 1).due(0, "fuse", 1, 1).due(8, "most", 0);
        run.due(0, "told", 1, 3).due(3, "told", 0, 3);
    }

    private static void wrongFour() {
        Run run = town("Terms 1: WRONG 4 it has a FUSE above what its WIRE bears");
        run.due(0, "string", 0, 0, 1, 1, 1, 1).due(1, "string", 0, 0, 1, 10, 1, 1).due(0, "fuse", 0, 500);
        run.due(0, "told", 0, 3).due(500, "fuse", 0, 501).due(4, "told", 0, 3).due(0, "fuse", 1, 5000);
        run.due(0, "told", 1, 3).due(5000, "fuse", 1, 5001).due(4, "told", 1, 3).due(5001, "fuse", 1, 60000);
        run.due(4, "told", 1, 3);
    }

    private static void wrongFive() {
        Run run = town("Terms 1: WRONG 5 no STRING has a FUSE of itself and all that it hangs on").withChain(23);
        run.due(23, "string", 0, 0, 1, 1, 1, 1).due(5, "told", 0, 3).due(5, "told", 22, 3).due(0, "fuse", 22, 1);
        run.due(0, "told", 22, 3).due(5, "told", 21, 3).due(1, "fuse", 22, 0).due(0, "fuse", 0, 23);
        run.due(0, "told", 22, 3).due(0, "told", 0, 3).due(5, "told", 23, 3);
    }

    private static void wrongSix() {
        Run run = town("Terms 1: WRONG 6 the FUSE nearest above it is above what its WIRE bears");
        run.due(0, "string", 0, 0, 1, 10, 1, 1).due(1, "string", 1, 0, 1, 10, 1, 1).due(2, "string", 1, 1, 1, 1, 1, 1);
        run.due(0, "fuse", 0, 500).due(0, "told", 2, 3).due(500, "fuse", 0, 501).due(6, "told", 2, 3);
        run.due(0, "fuse", 1, 500).due(0, "told", 2, 3).due(500, "fuse", 1, 501).due(501, "fuse", 0, 500);
        run.due(6, "told", 2, 3).due(0, "fuse", 2, 500).due(0, "told", 2, 3).due(500, "fuse", 2, 501);
        run.due(4, "told", 2, 3);
    }

    /** A wet string, and a dry one, that all is wrong with that can be at once; then less and less. */
    private static void wrongTheFirstOf() {
        Run run = town("Terms 1: WRONG, the first of").due(0, "string", 0, 0, 1, 10, 1, 1);
        run.due(1, "string", 11, 0, 100, 1, 60, 20).due(0, "fuse", 1, 600).due(1, "told", 1, 3);
        run.due(600, "fuse", 1, 1200).due(2, "told", 1, 3).due(1200, "fuse", 1, 0).due(2, "told", 1, 3);
        run.due(2, "string", 1, 0, 100, 1, 60, 20).due(0, "fuse", 2, 600).due(1, "told", 2, 3);
        run.due(600, "fuse", 2, 1200).due(3, "told", 2, 3).due(1000, "most", 100000).due(4, "told", 2, 3);
        run.due(1200, "fuse", 2, 0).due(5, "told", 2, 3).due(100000, "most", 1000).due(3, "told", 2, 3);
        run.due(0, "fuse", 0, 5000).due(3, "told", 2, 3).due(2, "told", 1, 3).due(1000, "most", 100000);
        run.due(6, "told", 2, 3).due(2, "told", 1, 3);
    }

    private static void mostNumbers() {
        Run run = new Run("promise 9: BEYOND: MOST (0 .. 100000)");
        run.dueForEach(Run.BEYOND, 0, Run.beside(0, 100000), "most", 0).due(1000, "most", 0).due(0, "most", 100000);
        run.dueForEach(Run.BEYOND, 0, Run.beside(0, 100000), "most", 0).due(100000, "most", 1).due(1, "most", 99999);
        run.due(99999, "most", 0);
    }

    private static void mostAtFirst() {
        Run run = town("promise 9: MOST (1000 at first)").due(0, "string", 0, 0, 100, 1, 20, 5);
        run.due(1, "string", 0, 0, 91, 1, 10, 11).due(1000, "told", 0, 2).due(1001, "told", 1, 2);
        run.due(5, "told", 0, 3).due(3, "told", 1, 3).due(1000, "most", 1000);
    }

    private static void mostAndGreatFalls() {
        Run run = town("promise 9: the greatest MOST").due(0, "string", 0, 0, 100, 1, 40, 10);
        for (int s = 1; s <= 4; s++) {
            run.due(s, "string", 21, 0, 1, 10, 60, 20);
        }
        run.due(1000, "most", 100000).due(100000, "told", 0, 2).due(5, "told", 0, 3).due(100000, "most", 99999);
        run.due(3, "told", 0, 3).due(99999, "most", 100000).due(5, "string", 1, 0, 1, 1, 1, 1).due(100010, "told", 0, 2);
        run.due(3, "told", 0, 3);
    }

    private static void blowBelowCurrent() {
        Run run = town("promise 10: a FUSE that is below its CURRENT").due(0, "string", 0, 0, 1, 1, 10, 10);
        run.due(0, "fuse", 0, 100).due(0, "blow").due(0, "about", 0, 8).due(100, "fuse", 0, 101).due(0, "blow");
        run.due(101, "fuse", 0, 99).due(1, "blow").due(1, "about", 0, 8).due(0, "blow");
    }

    private static void blowNoFuse() {
        Run run = new Run("promise 10: without STRINGS, without FUSES").due(0, "blow").withLamps().withChain(24);
        run.due(0, "blow").due(0, "count", 2).due(0, "fuse", 23, 1).due(0, "blow");
    }

    private static void blowDarkOnes() {
        Run run = town("promise 10: of DARK ones CURRENT is 0").withChain(3).due(0, "fuse", 1, 1).due(0, "dead", 0, 1);
        run.due(0, "blow").due(0, "about", 1, 8).due(1, "dead", 0, 0).due(1, "blow").due(1, "about", 1, 8);
    }

    private static void blowGreatestNumber() {
        Run run = town("promise 10: the one with the greatest number is DEAD");
        run.due(0, "string", 0, 0, 1, 1, 1, 1).due(1, "string", 1, 0, 1, 1, 1, 2).due(2, "string", 1, 0, 1, 1, 1, 2);
        run.due(0, "fuse", 0, 3).due(0, "fuse", 1, 1).due(0, "fuse", 2, 1).due(2, "blow").due(0, "about", 0, 8);
        run.due(1, "dead", 1, 0).due(1, "dead", 2, 0).due(1, "fuse", 1, 2).due(1, "blow").due(1, "about", 2, 8);
        run.due(0, "about", 1, 8).due(0, "about", 0, 8).due(3, "told", 0, 0);
    }

    private static void blowCounts() {
        Run run = town("promise 10: how many STRINGS are DEAD by that").withRow(3).due(3, "string", 0, 0, 1, 1, 1, 2);
        run.due(0, "dead", 0, 1).due(0, "fuse", 3, 1).due(1, "blow").due(2, "count", 2).due(0, "blow");
    }

    private static void blowAll() {
        Run run = town("promise 10: 24 STRINGS");
        for (int s = 0; s < 24; s++) {
            run.due(s, "string", 20, 0, 1, 1, 1, 1).due(0, "fuse", s, 1);
        }
        run.due(24, "blow").due(24, "count", 2).due(0, "blow");
        Run chain = town("promise 10: 24 STRINGS, each on the one before");
        for (int s = 0; s < 24; s++) {
            chain.due(s, "string", s == 0 ? 20 : 21, s == 0 ? 0 : s - 1, 1, 1, 1, 1).due(0, "fuse", s, 1);
        }
        chain.due(24, "blow").due(24, "count", 2);
    }

    private static void blowAnew() {
        Run run = town("promise 10: FIRST to LAST anew whenever it becomes DEAD").due(0, "string", 0, 0, 1, 1, 9, 1);
        run.due(0, "fuse", 0, 8).due(0, "dead", 0, 1).due(4, "look", 0, 4, 1).due(0, "blow").due(5, "fault", 0, 0);
        run.due(1, "dead", 0, 0).due(1, "blow").due(0, "fault", 0, 0).due(8, "fault", 0, 1);
    }

    private static void fewestWhat() {
        Run run = town("promise 11: BEYOND: another what (0, 1)").withRow(2);
        run.dueForEach(Run.BEYOND, 0, Run.beside(0, 1), "fewest", 0).due(2, "fewest", 0).due(3, "fewest", 1);
    }

    private static void fewestNoStrings() {
        new Run("promise 11: without STRINGS").due(0, "fewest", 0).due(0, "fewest", 1).due(0, "found", 2);
    }

    private static void fewestBeyondAheadOfNone() {
        Run run = town("promise 11: BEYOND ahead of NONE").due(0, "string", 0, 0, 1, 1, 60, 20);
        run.dueForEach(Run.BEYOND, 0, Run.beside(0, 1), "fewest", 0).due(0, "found", 2);
        run.due(Run.NONE, "fewest", 0).due(Run.NONE, "fewest", 1);
    }

    private static void fewestWetInTheSet() {
        Run run = town("promise 11: each WET one is in the set").due(0, "string", 0, 0, 1, 10, 1, 1);
        run.due(1, "string", 1, 0, 1, 10, 1, 1).due(2, "string", 21, 0, 1, 10, 1, 1).due(1, "fewest", 1);
        run.due(3, "string", 11, 1, 1, 10, 1, 1).due(9, "fewest", 1).due(2, "fewest", 0);
    }

    private static void fewestWetWorst() {
        Run run = town("promise 11: of a WET one WORST is 500 at most").due(0, "string", 10, 0, 1, 10, 50, 10);
        run.due(1, "fewest", 0).due(1, "fewest", 1).due(1, "string", 1, 0, 1, 10, 1, 1).due(501, "told", 0, 1);
        run.due(Run.NONE, "fewest", 0).due(Run.NONE, "fewest", 1).due(Run.NONE, "fuses");
    }

    private static void fewestOwnWire() {
        Run run = town("promise 11: each STRING's WIRE bears the FUSE nearest at it").due(0, "string", 0, 0, 1, 1, 50, 10);
        run.due(1, "fewest", 0).due(1, "string", 1, 0, 1, 10, 1, 1).due(Run.NONE, "fewest", 0);
        Run wide = town("promise 11: the widest WIRE").due(0, "string", 0, 0, 1, 10, 20, 10);
        wide.due(1, "string", 21, 0, 1, 10, 60, 20).due(2, "string", 21, 0, 1, 10, 60, 20).due(5000, "told", 0, 1);
        wide.due(1, "fewest", 0).due(3, "string", 1, 0, 1, 10, 1, 1).due(Run.NONE, "fewest", 0);
    }

    private static void fewestWireBelow() {
        Run run = town("promise 11: each STRING's WIRE bears the FUSE nearest above it");
        run.due(0, "string", 0, 0, 1, 10, 40, 10).due(1, "string", 1, 0, 1, 1, 10, 10).due(500, "told", 0, 1);
        run.due(1, "fewest", 1).due(2, "string", 1, 0, 1, 10, 1, 1).due(3, "fewest", 1).due(2, "fewest", 0);
    }

    private static void fewestNearest() {
        Run run = town("promise 11: the FUSE nearest, not one farther up").due(0, "string", 0, 0, 1, 10, 60, 20);
        run.due(1, "string", 1, 0, 1, 1, 10, 10).due(2, "string", 1, 1, 1, 1, 10, 10).due(3, "string", 1, 2, 1, 1, 30, 10);
        run.due(500, "told", 1, 1).due(3, "fewest", 1).due(4, "string", 1, 3, 1, 10, 1, 1).due(501, "told", 1, 1);
        run.due(Run.NONE, "fewest", 1);
    }

    private static void fewestOnTheMain() {
        Run run = town("promise 11: and there is one").due(0, "string", 0, 0, 1, 10, 1, 1).due(1, "fewest", 1);
        run.due(1, "string", 0, 0, 1, 10, 1, 1).due(3, "fewest", 1).due(2, "string", 1, 1, 1, 10, 1, 1);
        run.due(3, "fewest", 1);
    }

    /** The thin wire of 3 could be guarded from 1, from 2 or by itself. */
    private static void fewestLessAsBits() {
        Run run = town("promise 11: of several the one that is less as bits").due(0, "string", 0, 0, 1, 10, 60, 20);
        run.due(1, "string", 1, 0, 1, 10, 10, 10).due(2, "string", 1, 1, 1, 10, 10, 10);
        run.due(3, "string", 1, 2, 1, 1, 30, 10).due(2, "fewest", 0).due(3, "fewest", 1);
        run.due(4, "string", 1, 1, 1, 10, 1, 1).due(2, "fewest", 0);
        run.due(5, "fewest", 1).due(5, "string", 1, 2, 1, 10, 60, 10).due(2, "fewest", 0).due(9, "fewest", 1);
    }

    private static void fewestAll() {
        Run row = town("promise 11: 24 STRINGS, all in the set").withRow(24).due(24, "fewest", 0).due(ALL, "fewest", 1);
        row.due(24, "fuses");
        town("promise 11: 24 STRINGS, one in the set").withChain(24).due(1, "fewest", 0).due(1, "fewest", 1);
        Run none = town("promise 11: 24 STRINGS, no such set").due(0, "string", 10, 0, 1, 10, 60, 20);
        for (int s = 1; s < 24; s++) {
            none.due(s, "string", 11, s - 1, 1, 10, 60, 20);
        }
        none.due(Run.NONE, "fewest", 0).due(Run.NONE, "fuses").due(Run.NONE, "check");
    }

    /** What makes one string impossible must not be undone by another one that is so, too. */
    private static void fewestSeveralWithoutAWay() {
        Run row = town("promise 11: NONE: many STRINGS on the MAIN that no set guards");
        for (int s = 0; s < 24; s++) {
            row.due(s, "string", 0, 0, 1, 1, 60, 20).due(Run.NONE, "fewest", s % 2);
        }
        Run below = town("promise 11: NONE: many STRINGS on one that no set guards").withRow(1);
        for (int s = 1; s < 24; s++) {
            below.due(s, "string", 11, 0, 1, 10, 60, 20).due(Run.NONE, "fewest", s % 2);
        }
    }

    private static void fusesNone() {
        Run run = town("promise 12: NONE changes no FUSE").withRow(2).due(2, "string", 0, 0, 1, 1, 60, 20);
        run.due(0, "fuse", 0, 60000).due(0, "fuse", 2, 7).due(Run.NONE, "fuses");
        run.due(60000, "about", 0, 7).due(0, "about", 1, 7).due(7, "about", 2, 7);
    }

    private static void fusesNoStrings() {
        new Run("promise 12: without STRINGS").due(0, "fuses").due(0, "found", 2);
    }

    private static void fusesOfAllOthers() {
        Run run = town("promise 12: all others have none").withChain(24);
        for (int s = 1; s < 24; s++) {
            run.due(0, "fuse", s, s);
        }
        run.due(1, "fuses").due(24, "about", 0, 7);
        for (int s = 1; s < 24; s++) {
            run.due(0, "about", s, 7);
        }
    }

    private static void fusesJustWorst() {
        Run run = town("promise 12: a FUSE of just its WORST").due(0, "string", 0, 0, 1, 10, 10, 10);
        run.due(1, "string", 11, 0, 1, 10, 50, 10).due(0, "dead", 0, 1).due(0, "dead", 1, 1).due(2, "fuses");
        run.due(600, "about", 0, 7).due(500, "about", 1, 7).due(1, "dead", 0, 0).due(1, "dead", 1, 0).due(0, "blow");
        run.due(0, "told", 0, 3).due(0, "told", 1, 3);
    }
}
