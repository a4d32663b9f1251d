/** The boundary cases of promises 17 to 22 and of what the Terms say of nights; a test for each sentence. */
public final class EdgesOfNightsTest {
    private static final int[] NO_STRING_OF_ONE = {-1, 1, 23, 24, Run.MIN, Run.MAX};

    public static void main(String[] args) {
        crewsNumbers();
        hoursNumbers();
        crewsRefusedChangesNeither();
        crewsAtFirst();
        openStreet();
        openRow();
        openWrapsAround();
        openNever();
        orderNoSuchString();
        orderNoSuchPlace();
        orderEnds();
        orderAll();
        orderNewStringLast();
        hoursOfLengths();
        planNoStrings();
        planFirstNight();
        planHoursEnough();
        planLeastCrew();
        planFromUpOn();
        planUpNotHungByThen();
        planLastNight();
        planLastNightIsNotOpen();
        planNever();
        planMoreHoursThanANightHas();
        hungWhat();
        hungNoSuchString();
        hungNever();
        bestNoStrings();
        bestSixAndSeven();
        bestOfSeveral();
        bestTheLastOfAllOrders();
        bestWithThreeCrews();
        bestUpNotHungByThen();
        bestAllNever();
        bestRefusedKeepsOrder();
        Run.end();
    }

    private static Run town(String name) {
        return new Run(name).withLamps();
    }

    /** Strings on the main, in street 0, that want this many hours each. */
    private static Run row(Run run, int... hours) {
        for (int s = 0; s < hours.length; s++) {
            run.due(s, "string", 0, 0, hours[s] == 1 ? 1 : 20 * (hours[s] - 1), 1, 1, 1);
        }
        return run;
    }

    private static void dueOfEach(Run run, int what, int... want) {
        for (int s = 0; s < want.length; s++) {
            run.due(want[s], "hung", s, what);
        }
    }

    private static void crewsNumbers() {
        Run run = row(town("promise 17: BEYOND: CREWS (1 .. 3)"), 6, 6, 6, 6);
        run.dueForEach(Run.BEYOND, 0, Run.beside(1, 3), "crews", 1, 6).due(4, "plan").due(1, "crews", 3, 6).due(2, "plan");
        dueOfEach(run, 1, 0, 1, 2, 0);
        run.dueForEach(Run.BEYOND, 0, Run.beside(1, 3), "crews", 1, 6).due(2, "plan").due(1, "crews", 2, 6);
        dueOfEach(run, 1, 0, 1, 0, 1);
        run.due(1, "crews", 1, 6).due(4, "plan");
    }

    private static void hoursNumbers() {
        Run run = row(town("promise 17: BEYOND: HOURS (1 .. 12)"), 1, 1, 1, 1, 1, 1, 1, 1, 1, 1, 1, 1, 1);
        run.dueForEach(Run.BEYOND, 1, Run.beside(1, 12), "crews", 1, 1).due(3, "plan").due(1, "crews", 1, 12);
        run.due(2, "plan").due(0, "hung", 11, 0).due(1, "hung", 12, 0).due(1, "crews", 1, 1).due(13, "plan");
        run.dueForEach(Run.BEYOND, 1, Run.beside(1, 12), "crews", 1, 1).due(13, "plan").due(1, "crews", 1, 11);
        run.due(1, "hung", 11, 0).due(1, "crews", 1, 2).due(7, "plan");
    }

    private static void crewsRefusedChangesNeither() {
        Run run = row(town("promise 17: a refused call changes neither CREWS nor HOURS"), 6, 6, 6, 6);
        run.due(Run.BEYOND, "crews", 2, 13).due(Run.BEYOND, "crews", 2, 0).due(4, "plan");
        run.due(Run.BEYOND, "crews", 4, 12).due(Run.BEYOND, "crews", 0, 12).due(4, "plan").due(1, "crews", 2, 12);
        run.due(1, "plan");
    }

    private static void crewsAtFirst() {
        Run run = row(town("Terms 3: CREWS (1 at first), HOURS (6 at first)"), 3, 3, 1, 6).due(3, "plan");
        dueOfEach(run, 0, 0, 0, 1, 2);
        dueOfEach(run, 1, 0, 0, 0, 0);
    }

    private static void openStreet() {
        Run run = new Run("promise 18: BEYOND: STREET (0 .. 7)");
        run.dueForEach(Run.BEYOND, 0, Run.beside(0, 7), "open", 0, 1);
        for (int street = 0; street < 8; street++) {
            run.due(127, "open", street, street + 1).due(street + 1, "open", street, 9);
        }
        run.dueForEach(Run.BEYOND, 0, Run.beside(0, 7), "open", 0, 1).due(9, "open", 0, 9).due(9, "open", 7, 9);
    }

    private static void openRow() {
        Run run = new Run("promise 18: BEYOND: row (0 .. 127; 127 at first)");
        run.dueForEach(Run.BEYOND, 1, Run.beside(0, 127), "open", 3, 0).due(127, "open", 3, 0).due(0, "open", 3, 127);
        run.due(127, "open", 3, 1).dueForEach(Run.BEYOND, 1, Run.beside(0, 127), "open", 3, 0).due(1, "open", 3, 126);
        run.due(126, "open", 3, 127).due(127, "open", 0, 127).due(127, "open", 7, 127);
    }

    /** Each street is open in one night of seven; three strings in each take the nights of all crews. */
    private static void openWrapsAround() {
        Run run = town("Terms 3: OPEN in NIGHT n if bit (n modulo 7) of its row is").due(1, "crews", 3, 6);
        for (int street = 0; street < 7; street++) {
            run.due(127, "open", street, 1 << street);
            for (int i = 0; i < 3; i++) {
                run.due(3 * street + i, "string", 100 * street, 0, 100, 1, 1, 1);
            }
        }
        run.due(7, "plan").due(0, "hung", 2, 0).due(6, "hung", 20, 0).due(21, "string", 0, 0, 100, 1, 1, 1);
        run.due(22, "string", 300, 0, 100, 1, 1, 1).due(23, "string", 600, 0, 1, 1, 1, 1);
        run.due(14, "plan").due(7, "hung", 21, 0).due(10, "hung", 22, 0).due(13, "hung", 23, 0);
    }

    private static void openNever() {
        Run run = town("Terms 3: a STREET whose row is 0").withRow(1).due(127, "open", 0, 0).due(99, "plan");
        run.due(-1, "hung", 0, 0).due(0, "open", 0, 64).due(7, "plan").due(64, "open", 0, 1).due(1, "plan");
    }

    private static void orderNoSuchString() {
        Run run = town("promise 19: BEYOND: there is no such STRING").due(Run.BEYOND, "order", 0, 0).withRow(1);
        run.dueForEach(Run.BEYOND, 0, NO_STRING_OF_ONE, "order", 0, 0).due(0, "order", 0, 0).due(0, "hung", 0, 2);
    }

    private static void orderNoSuchPlace() {
        Run run = town("promise 19: BEYOND: there is no such place").withRow(3);
        run.dueForEach(Run.BEYOND, 1, new int[] {-1, 3, 4, 23, 24, Run.MIN, Run.MAX}, "order", 0, 0);
        dueOfEach(run, 2, 0, 1, 2);
    }

    private static void orderEnds() {
        Run run = town("promise 19: to the first place, and to the last, the others as they were").withRow(4);
        run.due(3, "order", 3, 0);
        dueOfEach(run, 2, 1, 2, 3, 0);
        run.due(1, "order", 0, 3);
        dueOfEach(run, 2, 3, 1, 2, 0);
        run.due(2, "order", 2, 2).due(0, "order", 3, 0).due(3, "order", 0, 3);
        dueOfEach(run, 2, 3, 1, 2, 0);
        run.due(1, "order", 1, 2);
        dueOfEach(run, 2, 3, 2, 1, 0);
    }

    private static void orderAll() {
        Run run = town("promise 19: 24 STRINGS").withRow(24).due(0, "order", 0, 23).due(23, "hung", 0, 2);
        run.due(0, "hung", 1, 2).due(22, "hung", 23, 2).due(22, "order", 23, 0).due(23, "order", 0, 0);
        run.due(0, "hung", 0, 2).due(1, "hung", 23, 2).due(23, "hung", 22, 2).due(Run.BEYOND, "order", 0, 24);
    }

    private static void orderNewStringLast() {
        Run run = town("Terms 3: a new STRING comes last").withRow(2).due(0, "order", 0, 1);
        run.due(2, "string", 0, 0, 1, 1, 1, 1);
        dueOfEach(run, 2, 1, 0, 2);
    }

    private static void hoursOfLengths() {
        Run run = town("Terms 3: HOURS: 1 and LENGTH by 20, cut");
        int[] lengths = {1, 19, 20, 21, 39, 40, 59, 60, 79, 80, 99, 100};
        for (int s = 0; s < lengths.length; s++) {
            run.due(s, "string", 0, 0, lengths[s], 1, 1, 1);
        }
        dueOfEach(run, 3, 1, 1, 2, 2, 2, 3, 3, 4, 4, 5, 5, 6);
    }

    private static void planNoStrings() {
        new Run("promise 20: END: 0 without STRINGS").due(0, "plan").due(127, "open", 0, 0).due(0, "plan");
    }

    private static void planFirstNight() {
        Run run = row(town("promise 20: END: 1 and the last NIGHT in which one is hung"), 6).due(1, "plan");
        run.due(1, "string", 0, 0, 1, 1, 1, 1).due(2, "plan").due(127, "open", 0, 4).due(10, "plan");
        Run later = row(town("promise 20: the last NIGHT, not that of the last STRING"), 4, 4, 2).due(2, "plan");
        dueOfEach(later, 0, 0, 1, 0);
    }

    private static void planHoursEnough() {
        Run run = row(town("promise 20: some CREW has HOURS enough left"), 5, 1, 1).due(2, "plan");
        dueOfEach(run, 0, 0, 0, 1);
        run.due(1, "crews", 1, 7).due(1, "plan").due(1, "crews", 1, 5).due(2, "plan");
        dueOfEach(run, 0, 0, 1, 1);
    }

    private static void planLeastCrew() {
        Run run = town("promise 20: by the CREW of the least number of these").due(1, "crews", 3, 6);
        row(run, 4, 4, 4, 3, 2, 2, 2);
        dueOfEach(run, 0, 0, 0, 0, 1, 0, 0, 0);
        dueOfEach(run, 1, 0, 1, 2, 0, 0, 1, 2);
        run.due(2, "plan");
    }

    private static void planFromUpOn() {
        Run run = town("promise 20: from the NIGHT of its UP on").due(127, "open", 0, 4).withChain(2).due(3, "plan");
        run.due(2, "hung", 0, 0).due(2, "hung", 1, 0).due(2, "string", 101, 0, 1, 1, 1, 1).due(2, "hung", 2, 0);
        run.due(127, "open", 1, 3).due(7, "hung", 2, 0).due(3, "string", 100, 0, 1, 1, 1, 1).due(0, "hung", 3, 0);
    }

    private static void planUpNotHungByThen() {
        Run run = town("promise 20: NEVER hung if its UP isn't hung by then").withChain(3).due(1, "plan");
        run.due(2, "order", 2, 0).due(99, "plan").due(-1, "hung", 2, 0).due(0, "hung", 1, 0).due(0, "order", 2, 1);
        run.due(99, "plan").due(1, "order", 2, 2).due(1, "plan").due(127, "open", 0, 0).due(99, "plan");
        dueOfEach(run, 0, -1, -1, -1);
        Run street = town("promise 20: NEVER hung if its UP is NEVER hung").due(0, "string", 700, 0, 1, 1, 1, 1);
        street.due(1, "string", 1, 0, 1, 1, 1, 1).due(2, "string", 1, 1, 1, 1, 1, 1).due(127, "open", 7, 0);
        dueOfEach(street, 0, -1, -1, -1);
    }

    /** Night 59 is the ninth with bit 3, and the last of all. */
    private static void planLastNight() {
        Run run = row(town("promise 20: up to 59").due(127, "open", 0, 8), 6, 6, 6, 6, 6, 6, 6, 6).due(53, "plan");
        run.due(8, "string", 0, 0, 80, 1, 1, 1).due(60, "plan").due(59, "hung", 8, 0);
        run.due(9, "string", 0, 0, 1, 1, 1, 1).due(60, "plan").due(59, "hung", 9, 0);
        run.due(10, "string", 0, 0, 1, 1, 1, 1).due(99, "plan").due(-1, "hung", 10, 0).due(59, "hung", 9, 0);
    }

    /** Bit 4 would be next in night 60. */
    private static void planLastNightIsNotOpen() {
        Run run = row(town("promise 20: there is no NIGHT 60").due(127, "open", 0, 16), 6, 6, 6, 6, 6, 6, 6, 6);
        run.due(54, "plan").due(53, "hung", 7, 0).due(8, "string", 0, 0, 1, 1, 1, 1).due(99, "plan").due(-1, "hung", 8, 0);
        run.due(16, "open", 0, 24).due(32, "plan").due(25, "hung", 7, 0);
    }

    private static void planNever() {
        Run run = town("promise 20: 99 if one is NEVER hung").withRow(24).due(4, "plan").due(127, "open", 7, 0);
        run.due(4, "plan").due(127, "open", 0, 0).due(99, "plan");
    }

    private static void planMoreHoursThanANightHas() {
        Run run = row(town("promise 20: no such NIGHT: it wants more HOURS than CREWS have"), 6, 1).due(2, "plan");
        run.due(1, "crews", 3, 5).due(99, "plan").due(-1, "hung", 0, 0).due(0, "hung", 1, 0).due(0, "hung", 1, 1);
        run.due(1, "crews", 1, 6).due(2, "plan");
    }

    private static void hungWhat() {
        Run run = row(town("promise 21: BEYOND: another what (0 .. 3)"), 6, 6);
        run.dueForEach(Run.BEYOND, 1, Run.beside(0, 3), "hung", 1, 0).dueRowOf(1, "hung", 1, 0, 1, 6);
    }

    private static void hungNoSuchString() {
        Run run = town("promise 21: BEYOND: there is no such one").due(Run.BEYOND, "hung", 0, 0).withRow(1);
        for (int what = 0; what < 4; what++) {
            run.dueForEach(Run.BEYOND, 0, NO_STRING_OF_ONE, "hung", 0, what);
        }
        town("promise 21: the last STRING").withRow(24).due(3, "hung", 23, 0).due(Run.BEYOND, "hung", 24, 0);
    }

    private static void hungNever() {
        Run run = town("promise 21: -1: NEVER").withRow(1).due(127, "open", 0, 0).dueRowOf(0, "hung", -1, -1, 0, 1);
        run.due(0, "open", 0, 1).dueRowOf(0, "hung", 0, 0, 0, 1);
    }

    private static void bestNoStrings() {
        new Run("promise 22: without STRINGS").due(0, "best").due(0, "found", 3);
    }

    private static void bestSixAndSeven() {
        Run run = row(town("promise 22: STATE: there are more than 6 STRINGS"), 2, 2, 4, 4, 5, 1).due(4, "plan");
        run.due(3, "best").due(3, "plan").due(6, "string", 0, 0, 1, 1, 1, 1).due(Run.STATE, "best");
        town("promise 22: 24 STRINGS").withRow(24).due(Run.STATE, "best");
    }

    private static void bestOfSeveral() {
        Run run = row(town("promise 22: of several the one whose first STRING is the lesser, and so on"), 1, 1);
        run.due(0, "order", 0, 1).due(1, "best");
        dueOfEach(run, 2, 0, 1);
        run.due(127, "open", 1, 1).due(2, "string", 100, 0, 80, 1, 1, 1).due(1, "order", 1, 0).due(2, "best");
        dueOfEach(run, 2, 0, 2, 1);
        run.due(3, "string", 0, 0, 1, 1, 1, 1).due(2, "best");
        dueOfEach(run, 2, 0, 2, 1, 3);
    }

    /** String s may be hung in nights 0 to 5 - s only, and takes a whole one: those after it must come ahead of it. */
    private static void bestTheLastOfAllOrders() {
        Run run = town("promise 22: of all ORDERS, the last one too");
        for (int s = 0; s < 6; s++) {
            run.due(127, "open", s, (1 << (6 - s)) - 1).due(s, "string", 100 * s, 0, 100, 1, 1, 1);
        }
        run.due(6, "best").due(6, "plan");
        dueOfEach(run, 2, 5, 4, 3, 2, 1, 0);
    }

    private static void bestWithThreeCrews() {
        Run run = town("promise 22: of all ORDERS, with as many CREWS as may be").due(1, "crews", 3, 6);
        run.due(127, "open", 1, 1);
        for (int s = 0; s < 6; s++) {
            run.due(s, "string", s < 3 ? 0 : 100, 0, 100, 1, 1, 1);
        }
        run.due(8, "plan").due(2, "best");
        dueOfEach(run, 2, 3, 4, 5, 0, 1, 2);
        dueOfEach(run, 1, 0, 1, 2, 0, 1, 2);
    }

    /** If 1 could come ahead of 0, which it hangs on, all would be hung by night 1. */
    private static void bestUpNotHungByThen() {
        Run run = town("promise 22: of all ORDERS, an UP behind what hangs on it").due(127, "open", 1, 2);
        run.due(127, "open", 2, 1).due(0, "string", 0, 0, 80, 1, 1, 1).due(1, "string", 201, 0, 80, 1, 1, 1);
        run.due(2, "string", 100, 0, 1, 1, 1, 1).due(8, "best");
        dueOfEach(run, 2, 0, 1, 2);
        dueOfEach(run, 0, 0, 7, 1);
    }

    private static void bestAllNever() {
        Run run = town("promise 22: 99 by all ORDERS").withRow(6).due(127, "open", 0, 0).due(5, "order", 5, 0);
        run.due(99, "best");
        dueOfEach(run, 2, 0, 1, 2, 3, 4, 5);
    }

    private static void bestRefusedKeepsOrder() {
        Run run = town("promise 22: refused, the ORDER is as it was").withRow(7).due(6, "order", 6, 0);
        run.due(Run.STATE, "best");
        dueOfEach(run, 2, 1, 2, 3, 4, 5, 6, 0);
    }
}
