/** The boundary cases of promises 1 to 7 and of what the Terms say of crates and strings; a test for each sentence. */
public final class EdgesOfStringsTest {
    private static final int[] NO_STRING_OF_ONE = {-1, 1, 23, 24, Run.MIN, Run.MAX};

    public static void main(String[] args) {
        noCratesNoStrings();
        crateLamps();
        crateFull();
        crateBeyondAheadOfFull();
        howBelowZero();
        howStreet();
        howKind();
        howLastDigit();
        upNoneSuch();
        upLesserNumber();
        upNotZeroWithout();
        stringLength();
        stringWire();
        stringLamps();
        stringWatt();
        stringTooFewLamps();
        stringTooFewInSeveralCrates();
        stringFull();
        stringFindingsInOrder();
        stringRefusedTakesNothing();
        lampsLampByLamp();
        lampsLeastNumber();
        stringAtFirst();
        fuseNumbers();
        fuseNoSuchString();
        deadNumbers();
        deadNoSuchString();
        deadAgainKeeps();
        deadAnew();
        aboutWhat();
        aboutNoSuchString();
        aboutUp();
        darkByItself();
        darkByOnesAbove();
        darkNotByOthers();
        asKindNumbers();
        asNoSuchString();
        asOtherKind();
        asBeyondAheadOfKind();
        loadLeastAndGreatest();
        Run.end();
    }

    private static Run town(String name) {
        return new Run(name).withLamps();
    }

    private static Run oneString(String name) {
        return town(name).withRow(1);
    }

    private static void noCratesNoStrings() {
        Run run = new Run("promise 1: no CRATES, no STRINGS");
        run.dueRow("count", 0, 0, 0, 0, 0, 0);
        run.due(Run.BEYOND, "box", 0, 0).due(Run.BEYOND, "about", 0, 0).due(Run.BEYOND, "lamp", 0, 0);
        run.due(Run.BEYOND, "told", 0, 0).due(Run.BEYOND, "hung", 0, 0).due(Run.BEYOND, "order", 0, 0);
    }

    private static void crateLamps() {
        Run run = new Run("promise 2: BEYOND: lamps isn't 1 .. 1000");
        run.dueForEach(Run.BEYOND, 0, Run.beside(1, 1000), "crate", 0).due(0, "count", 1);
        run.due(0, "crate", 1).due(1, "crate", 1000).due(2, "crate", 2).due(3, "crate", 999);
        run.due(1, "box", 0, 0).due(1000, "box", 1, 0).due(2002, "count", 5);
    }

    private static void crateFull() {
        Run run = new Run("promise 2: CRATES (at most 12), FULL");
        for (int crate = 0; crate < 12; crate++) {
            run.due(crate, "count", 1).due(crate, "crate", 10);
        }
        run.due(Run.FULL, "crate", 10).due(Run.FULL, "crate", 1).due(Run.FULL, "crate", 1000);
        run.due(12, "count", 1).due(120, "count", 5).due(10, "box", 11, 0).due(Run.BEYOND, "box", 12, 0);
    }

    private static void crateBeyondAheadOfFull() {
        Run run = town("promise 2: BEYOND ahead of FULL");
        run.dueForEach(Run.BEYOND, 0, Run.beside(1, 1000), "crate", 0).due(0, "found", 4).due(12, "count", 1);
    }

    private static void howBelowZero() {
        Run run = town("promise 3: BEYOND: how below 0");
        run.dueForEach(Run.BEYOND, 0, new int[] {-1, -10, -99, -100, -700, -1000, Run.MIN}, "string", 0, 0, 1, 1, 1, 1);
        run.due(0, "count", 0).due(0, "string", 0, 0, 1, 1, 1, 1);
    }

    private static void howStreet() {
        Run run = town("promise 3: BEYOND: street isn't as told (0 .. 7)");
        for (int street = 0; street < 8; street++) {
            run.due(street, "string", 100 * street, 0, 1, 1, 1, 1).due(street, "about", street, 2);
        }
        run.dueForEach(Run.BEYOND, 0, new int[] {800, 801, 810, 821, 900, 1000, 2147483600}, "string", 0, 0, 1, 1, 1, 1);
        run.due(8, "string", 721, 7, 1, 1, 1, 1).due(7, "about", 8, 2).due(9, "count", 0);
    }

    private static void howKind() {
        Run run = town("promise 3: BEYOND: kind isn't as told (0 .. 2)");
        for (int kind = 0; kind < 3; kind++) {
            run.due(kind, "string", 10 * kind, 0, 1, 1, 1, 1).due(kind, "about", kind, 0);
        }
        run.dueForEach(Run.BEYOND, 0, new int[] {30, 31, 40, 90, 130, 730, 791}, "string", 0, 0, 1, 1, 1, 1);
        run.due(3, "string", 711, 0, 1, 1, 1, 1).due(1, "about", 3, 0).due(4, "count", 0);
    }

    private static void howLastDigit() {
        Run run = town("promise 3: BEYOND: its last digit isn't 0 or 1");
        run.due(0, "string", 0, 0, 1, 1, 1, 1).due(1, "string", 1, 0, 1, 1, 1, 1);
        run.dueForEach(Run.BEYOND, 0, new int[] {2, 3, 9, 12, 22, 702, 729, Run.MAX}, "string", 0, 0, 1, 1, 1, 1);
        run.due(-1, "about", 0, 1).due(0, "about", 1, 1).due(2, "count", 0);
    }

    private static void upNoneSuch() {
        Run run = town("promise 3: BEYOND: up (none such)");
        run.dueForEach(Run.BEYOND, 1, new int[] {-1, 0, 1, Run.MIN, Run.MAX}, "string", 1, 0, 1, 1, 1, 1);
        run.due(0, "string", 0, 0, 1, 1, 1, 1);
        run.dueForEach(Run.BEYOND, 1, NO_STRING_OF_ONE, "string", 1, 0, 1, 1, 1, 1);
        run.due(1, "string", 1, 0, 1, 1, 1, 1).due(2, "count", 0);
    }

    private static void upLesserNumber() {
        Run run = town("promise 3: UP has a lesser number").withRow(1);
        for (int s = 1; s < 24; s++) {
            run.due(Run.BEYOND, "string", 1, s, 1, 1, 1, 1).due(s, "string", 1, s - 1, 1, 1, 1, 1);
            run.due(s - 1, "about", s, 1);
        }
    }

    private static void upNotZeroWithout() {
        Run run = town("promise 3: BEYOND: up (not 0 without)").withRow(3);
        run.dueForEach(Run.BEYOND, 1, new int[] {-1, 1, 2, 3, Run.MIN, Run.MAX}, "string", 0, 0, 1, 1, 1, 1);
        run.due(3, "string", 0, 0, 1, 1, 1, 1).due(-1, "about", 3, 1);
    }

    /** A string's number at place of string(), told by about(): the least and the greatest come, those beside do not. */
    private static void stringNumber(String name, int place, int least, int greatest, int what) {
        Run run = town(name);
        run.dueForEach(Run.BEYOND, place, Run.beside(least, greatest), "string", 0, 0, 1, 1, 1, 1).due(0, "count", 0);
        int[] numbers = {least, least + 1, greatest - 1, greatest};
        for (int s = 0; s < numbers.length; s++) {
            run.dueForEach(s, place, new int[] {numbers[s]}, "string", 0, 0, 1, 1, 1, 1);
            run.due(numbers[s], "about", s, what);
        }
    }

    private static void stringLength() {
        stringNumber("promise 3: LENGTH (1 .. 100)", 2, 1, 100, 3);
    }

    private static void stringWire() {
        stringNumber("promise 3: WIRE (1 .. 10)", 3, 1, 10, 4);
    }

    private static void stringLamps() {
        stringNumber("promise 3: LAMPS (1 .. 60)", 4, 1, 60, 5);
    }

    private static void stringWatt() {
        stringNumber("promise 3: WATT (1 .. 20)", 5, 1, 20, 6);
    }

    private static void stringTooFewLamps() {
        Run run = new Run("promise 3: STATE: CRATES have too few lamps left");
        run.due(Run.STATE, "string", 0, 0, 1, 1, 1, 1).due(0, "crate", 5).due(Run.STATE, "string", 0, 0, 1, 1, 6, 1);
        run.due(0, "string", 0, 0, 1, 1, 5, 1).due(0, "count", 5).due(Run.STATE, "string", 0, 0, 1, 1, 1, 1);
        run.due(1, "count", 0);
    }

    private static void stringTooFewInSeveralCrates() {
        Run run = new Run("promise 3: STATE: all CRATES together have too few");
        run.due(0, "crate", 20).due(1, "crate", 20).due(2, "crate", 19).due(Run.STATE, "string", 0, 0, 1, 1, 60, 1);
        run.due(3, "crate", 1).due(0, "string", 0, 0, 1, 1, 60, 1).due(0, "count", 5);
    }

    private static void stringFull() {
        Run run = town("promise 3: STRINGS (at most 24), FULL").withRow(23).due(23, "count", 0);
        run.due(23, "string", 0, 0, 1, 1, 1, 1).due(Run.FULL, "string", 0, 0, 1, 1, 1, 1);
        run.due(Run.FULL, "string", 1, 23, 1, 1, 1, 1).due(24, "count", 0).due(11976, "count", 5);
        run.due(Run.BEYOND, "about", 24, 0).due(0, "about", 23, 0);
    }

    private static void stringFindingsInOrder() {
        Run run = new Run("promise 3: BEYOND, then STATE, then FULL").due(Run.BEYOND, "string", 0, 0, 1, 1, 61, 1);
        run.due(0, "crate", 25).withRow(24).due(Run.STATE, "string", 0, 0, 1, 1, 2, 1);
        run.due(Run.FULL, "string", 0, 0, 1, 1, 1, 1).due(Run.BEYOND, "string", 0, 0, 1, 1, 0, 1);
        run.due(Run.BEYOND, "string", 1, 24, 1, 1, 1, 1).due(Run.BEYOND, "string", 800, 0, 1, 1, 2, 1);
    }

    private static void stringRefusedTakesNothing() {
        Run run = new Run("promise 3: a refused one takes no lamps, no number, no place");
        run.due(0, "crate", 5).due(Run.STATE, "string", 0, 0, 1, 1, 6, 1).due(Run.BEYOND, "string", 0, 0, 1, 1, 5, 21);
        run.due(5, "count", 5).due(5, "box", 0, 1).due(0, "box", 0, 3).due(0, "count", 0).due(0, "plan");
        run.due(0, "string", 0, 0, 1, 1, 5, 20).due(0, "hung", 0, 2);
    }

    private static void lampsLampByLamp() {
        Run run = new Run("promise 3: LAMPS from CRATES, lamp by lamp (lamp 0 first)");
        for (int crate = 0; crate < 12; crate++) {
            run.due(crate, "crate", 1);
        }
        run.due(0, "string", 0, 0, 1, 1, 11, 1).due(1, "string", 0, 0, 1, 1, 1, 1);
        run.dueRowOf(0, "lamp", 0, 1, 2, 3, 4, 5, 6, 7, 8, 9, 10).due(11, "lamp", 1, 0);
    }

    private static void lampsLeastNumber() {
        Run run = new Run("promise 3: each from the CRATE of the least number that has one left");
        run.due(0, "crate", 2).due(1, "crate", 3).due(0, "string", 0, 0, 1, 1, 2, 1).due(1, "string", 0, 0, 1, 1, 2, 1);
        run.dueRowOf(0, "lamp", 0, 0).dueRowOf(1, "lamp", 1, 1).due(0, "box", 0, 1).due(1, "box", 1, 1);
        run.due(2, "crate", 1000).due(2, "string", 0, 0, 1, 1, 3, 1).dueRowOf(2, "lamp", 1, 2, 2);
    }

    private static void stringAtFirst() {
        Run run = town("promise 3: no FUSE at first, not DEAD at first").withChain(2);
        run.due(0, "about", 0, 7).due(0, "about", 0, 8).due(0, "about", 1, 7).due(0, "about", 1, 8);
        run.due(0, "fuse", 0, 5).due(0, "dead", 0, 1).due(2, "string", 1, 0, 1, 1, 1, 1);
        run.due(0, "about", 2, 7).due(0, "about", 2, 8).due(1, "about", 2, 9);
    }

    private static void fuseNumbers() {
        Run run = oneString("promise 4: BEYOND: fuse isn't as told (0: none; else 1 .. 60000)");
        run.dueForEach(Run.BEYOND, 1, Run.beside(0, 60000), "fuse", 0, 0).due(0, "about", 0, 7);
        run.due(0, "fuse", 0, 60000).dueForEach(Run.BEYOND, 1, Run.beside(0, 60000), "fuse", 0, 0);
        run.due(60000, "fuse", 0, 1).due(1, "fuse", 0, 0).due(0, "fuse", 0, 59999).due(59999, "about", 0, 7);
    }

    private static void fuseNoSuchString() {
        Run run = town("promise 4: BEYOND: there is no such one").due(Run.BEYOND, "fuse", 0, 1).withRow(1);
        run.dueForEach(Run.BEYOND, 0, NO_STRING_OF_ONE, "fuse", 0, 1).due(0, "about", 0, 7);
        Run full = town("promise 4: the last STRING").withRow(24);
        full.due(0, "fuse", 23, 9).due(9, "about", 23, 7).due(Run.BEYOND, "fuse", 24, 9);
    }

    private static void deadNumbers() {
        Run run = oneString("promise 5: BEYOND: is isn't 0 or 1");
        run.dueForEach(Run.BEYOND, 1, Run.beside(0, 1), "dead", 0, 0).due(0, "about", 0, 8).due(0, "dead", 0, 1);
        run.dueForEach(Run.BEYOND, 1, Run.beside(0, 1), "dead", 0, 0).due(1, "about", 0, 8).due(1, "dead", 0, 0);
        run.due(0, "dead", 0, 0).due(0, "about", 0, 8);
    }

    private static void deadNoSuchString() {
        Run run = town("promise 5: BEYOND: there is no such one").due(Run.BEYOND, "dead", 0, 1).withRow(1);
        run.dueForEach(Run.BEYOND, 0, NO_STRING_OF_ONE, "dead", 0, 1).due(0, "count", 2);
        Run full = town("promise 5: the last STRING").withRow(24);
        full.due(0, "dead", 23, 1).due(1, "count", 2).due(Run.BEYOND, "dead", 24, 1).due(1, "count", 2);
    }

    private static void deadAgainKeeps() {
        Run run = town("promise 5: one that was DEAD and is so again keeps FIRST and LAST");
        run.due(0, "string", 0, 0, 1, 1, 10, 1).due(0, "dead", 0, 1).due(7, "look", 0, 2, 1).due(5, "look", 0, 7, 0);
        run.due(1, "dead", 0, 1).due(3, "fault", 0, 0).due(7, "fault", 0, 1);
    }

    private static void deadAnew() {
        Run run = town("promise 5: FIRST to LAST anew whenever it becomes DEAD");
        run.due(0, "string", 0, 0, 1, 1, 10, 1).due(0, "dead", 0, 1).due(7, "look", 0, 2, 1).due(5, "look", 0, 7, 0);
        run.due(1, "dead", 0, 0).due(0, "dead", 0, 1).due(0, "fault", 0, 0).due(9, "fault", 0, 1);
    }

    private static void aboutWhat() {
        Run run = town("promise 6: BEYOND: another what (0 .. 9)").due(0, "string", 310, 0, 40, 5, 6, 7);
        run.dueForEach(Run.BEYOND, 1, Run.beside(0, 9), "about", 0, 0);
        run.dueRowOf(0, "about", 1, -1, 3, 40, 5, 6, 7, 0, 0, 0);
    }

    private static void aboutNoSuchString() {
        Run run = town("promise 6: BEYOND: there is no such one").due(Run.BEYOND, "about", 0, 0).withRow(1);
        for (int what = 0; what < 10; what++) {
            run.dueForEach(Run.BEYOND, 0, NO_STRING_OF_ONE, "about", 0, what);
        }
        town("promise 6: the last STRING").withRow(24).due(1, "about", 23, 3).due(Run.BEYOND, "about", 24, 3);
    }

    private static void aboutUp() {
        Run run = town("promise 6: UP (-1: the MAIN)").withChain(2).due(2, "string", 0, 0, 1, 1, 1, 1);
        run.due(-1, "about", 0, 1).due(0, "about", 1, 1).due(-1, "about", 2, 1);
    }

    private static void darkByItself() {
        Run run = oneString("Terms 1: a STRING is DARK if it is DEAD").due(0, "about", 0, 9);
        run.due(0, "dead", 0, 1).due(1, "about", 0, 9).due(1, "dead", 0, 0).due(0, "about", 0, 9);
    }

    private static void darkByOnesAbove() {
        Run run = town("Terms 1: DARK if one that it hangs on (UP, the UP of that, ..) is DEAD").withChain(24);
        run.due(0, "dead", 0, 1).due(24, "count", 3).due(1, "about", 1, 9).due(1, "about", 23, 9).due(0, "about", 23, 8);
        run.due(1, "dead", 0, 0).due(0, "count", 3).due(0, "dead", 22, 1).due(1, "about", 23, 9).due(2, "count", 3);
    }

    private static void darkNotByOthers() {
        Run run = town("Terms 1: not DARK by one below, or beside").withChain(3).due(3, "string", 1, 0, 1, 1, 1, 1);
        run.due(0, "dead", 2, 1).due(0, "about", 0, 9).due(0, "about", 1, 9).due(0, "about", 3, 9).due(1, "count", 3);
    }

    private static void asKindNumbers() {
        Run run = oneString("promise 7: BEYOND: kind (0 .. 2)").due(1, "as", 0, 0);
        run.dueForEach(Run.BEYOND, 1, Run.beside(0, 2), "as", 0, 0).due(1, "string", 20, 0, 1, 1, 1, 1);
        run.due(2, "as", 1, 2).dueForEach(Run.BEYOND, 1, Run.beside(0, 2), "as", 1, 0).due(0, "found", 5);
    }

    private static void asNoSuchString() {
        Run run = town("promise 7: BEYOND: there is no such one").due(Run.BEYOND, "as", 0, 0).withRow(1);
        run.dueForEach(Run.BEYOND, 0, NO_STRING_OF_ONE, "as", 0, 0);
        town("promise 7: the last STRING").withRow(24).due(1, "as", 23, 0).due(Run.BEYOND, "as", 24, 0);
    }

    private static void asOtherKind() {
        Run run = town("promise 7: KIND: it isn't of that kind, nor of one under it");
        run.due(0, "string", 0, 0, 1, 1, 1, 1).due(1, "string", 10, 0, 1, 1, 1, 1).due(2, "string", 20, 0, 1, 1, 1, 1);
        run.dueRowOf(0, "as", 1, Run.KIND, Run.KIND).dueRowOf(1, "as", 1, 1, Run.KIND);
        run.dueRowOf(2, "as", 2, Run.KIND, 2);
    }

    private static void asBeyondAheadOfKind() {
        Run run = oneString("promise 7: BEYOND ahead of KIND").due(Run.BEYOND, "as", 1, 1).due(Run.BEYOND, "as", 0, 3);
        run.due(Run.BEYOND, "as", 0, -1).due(0, "found", 5).due(Run.KIND, "as", 0, 2);
    }

    private static void loadLeastAndGreatest() {
        Run run = town("Terms 1: LOAD: LAMPS times WATT, of a SIGN twice that").due(0, "string", 0, 0, 1, 1, 1, 1);
        run.due(1, "string", 0, 0, 1, 1, 60, 20).due(2, "string", 10, 0, 1, 1, 60, 20).due(3, "string", 20, 0, 1, 1, 1, 1);
        run.due(4, "string", 20, 0, 1, 1, 60, 20);
        run.due(1, "as", 0, 0).due(1200, "as", 1, 0).due(1200, "as", 2, 1).due(2, "as", 3, 2).due(2400, "as", 4, 0);
    }
}
