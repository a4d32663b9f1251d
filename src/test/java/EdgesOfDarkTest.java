/** The boundary cases of promises 13 to 16 and of what the Terms say of the dark; a test for each sentence. */
public final class EdgesOfDarkTest {
    private static final int ALL = (1 << 24) - 1;
    private static final int[] NO_STRING_OF_ONE = {-1, 1, 23, 24, Run.MIN, Run.MAX};

    public static void main(String[] args) {
        explainNoStrings();
        explainBitsOfNoStrings();
        explainAll();
        explainNothingDark();
        explainNone();
        explainAtOnce();
        explainTopmost();
        explainAsIfNoOther();
        explainBeyondAheadOfNone();
        lookNoSuchString();
        lookNoSuchLamp();
        lookBurns();
        lookNotDead();
        lookFindingsInOrder();
        lookNowhere();
        lookDoesNotBurn();
        lookBurnsBehind();
        lookOneLamp();
        nextNoSuchString();
        nextNotDead();
        nextKnown();
        nextIsCut();
        faultNoSuchString();
        faultNotDead();
        faultAtFirst();
        Run.end();
    }

    private static Run town(String name) {
        return new Run(name).withLamps();
    }

    /** One string with this many lamps, dead. */
    private static Run deadOne(String name, int lamps) {
        return town(name).due(0, "string", 0, 0, 1, 1, lamps, 1).due(0, "dead", 0, 1);
    }

    private static void dueFault(Run run, int first, int last) {
        run.due(first, "fault", 0, 0).due(last, "fault", 0, 1);
    }

    private static void explainNoStrings() {
        Run run = new Run("promise 13: without STRINGS").due(0, "explain", 0);
        run.dueForEach(Run.BEYOND, 0, new int[] {-1, 1, ALL, ALL + 1, Run.MIN, Run.MAX}, "explain", 0);
    }

    private static void explainBitsOfNoStrings() {
        Run run = town("promise 13: BEYOND: bits of no STRINGS").withRow(5).due(31, "explain", 31).due(16, "explain", 16);
        run.dueForEach(Run.BEYOND, 0, new int[] {32, 33, 63, 64, ALL, -1, -32, Run.MIN, Run.MAX}, "explain", 0);
    }

    private static void explainAll() {
        Run row = town("promise 13: 24 STRINGS").withRow(24).due(ALL, "explain", ALL).due(1 << 23, "explain", 1 << 23);
        row.dueForEach(Run.BEYOND, 0, new int[] {ALL + 1, ALL + 2, -1, Run.MIN, Run.MAX}, "explain", 0);
        Run chain = town("promise 13: 24 STRINGS, each on the one before").withChain(24).due(1, "explain", ALL);
        chain.due(1 << 23, "explain", 1 << 23).due(Run.NONE, "explain", 1 << 22).due(1 << 22, "explain", 3 << 22);
        chain.due(Run.BEYOND, "explain", 1 << 24).due(Run.NONE, "explain", 1).due(2, "explain", ALL - 1);
    }

    private static void explainNothingDark() {
        town("promise 13: none is DARK").withChain(3).due(0, "explain", 0).due(0, "dead", 0, 1).due(0, "explain", 0);
    }

    private static void explainNone() {
        Run run = town("promise 13: NONE: one hangs on one of them and isn't among them").withChain(3);
        run.due(Run.NONE, "explain", 1).due(Run.NONE, "explain", 2).due(Run.NONE, "explain", 3).due(Run.NONE, "explain", 5);
        run.due(4, "explain", 4).due(2, "explain", 6).due(1, "explain", 7);
    }

    /** 2 hangs on 0 by way of 1: that 2 is dark alone is fine, that 1 alone of these is not is what makes NONE. */
    private static void explainAtOnce() {
        Run run = town("promise 13: hangs on one of them (at once)").withChain(3).due(3, "string", 1, 0, 1, 1, 1, 1);
        run.due(12, "explain", 12).due(Run.NONE, "explain", 13).due(Run.NONE, "explain", 7).due(1, "explain", 15);
    }

    private static void explainTopmost() {
        Run run = town("promise 13: those of them whose UP isn't among them").withChain(2);
        run.due(2, "string", 1, 0, 1, 1, 1, 1).due(3, "string", 0, 0, 1, 1, 1, 1).due(1, "explain", 7);
        run.due(9, "explain", 15).due(6, "explain", 6).due(14, "explain", 14).due(8, "explain", 8);
    }

    private static void explainAsIfNoOther() {
        Run run = town("promise 13: as if no other one were DEAD").withChain(3).due(0, "dead", 0, 1).due(0, "dead", 2, 1);
        run.due(4, "explain", 4).due(2, "explain", 6).due(1, "explain", 7).due(2, "count", 2);
    }

    private static void explainBeyondAheadOfNone() {
        Run run = town("promise 13: BEYOND ahead of NONE").withChain(3).due(Run.BEYOND, "explain", 9);
        run.due(Run.BEYOND, "explain", Run.MIN + 1).due(0, "found", 2).due(Run.NONE, "explain", 1);
    }

    private static void lookNoSuchString() {
        Run run = town("promise 14: BEYOND: there is no such STRING").due(Run.BEYOND, "look", 0, 0, 0).withRow(1);
        run.due(0, "dead", 0, 1).dueForEach(Run.BEYOND, 0, NO_STRING_OF_ONE, "look", 0, 0, 0);
        Run full = town("promise 14: the last STRING").withRow(24).due(0, "dead", 23, 1).due(1, "look", 23, 0, 0);
        full.due(Run.BEYOND, "look", 24, 0, 0);
    }

    private static void lookNoSuchLamp() {
        Run run = deadOne("promise 14: BEYOND: there is no such lamp", 60);
        run.dueForEach(Run.BEYOND, 1, Run.beside(0, 59), "look", 0, 0, 0);
        run.dueForEach(Run.BEYOND, 1, Run.beside(0, 59), "look", 0, 0, 1);
        dueFault(run, 0, 59);
        run.due(60, "look", 0, 59, 0).due(59, "look", 0, 0, 1);
        deadOne("promise 14: BEYOND: not one of its own lamps", 5).due(Run.BEYOND, "look", 0, 5, 0).due(5, "look", 0, 4, 0);
    }

    private static void lookBurns() {
        Run run = deadOne("promise 14: BEYOND: burns isn't 0 or 1", 9);
        run.dueForEach(Run.BEYOND, 2, Run.beside(0, 1), "look", 0, 4, 0);
        dueFault(run, 0, 8);
        run.due(4, "look", 0, 4, 1).due(2, "look", 0, 6, 0);
    }

    private static void lookNotDead() {
        Run run = town("promise 14: STATE: it isn't DEAD").withChain(2).due(Run.STATE, "look", 0, 0, 0);
        run.due(0, "dead", 0, 1).due(Run.STATE, "look", 1, 0, 0).due(1, "look", 0, 0, 0).due(1, "dead", 0, 0);
        run.due(Run.STATE, "look", 0, 0, 0);
    }

    private static void lookFindingsInOrder() {
        Run run = town("promise 14: BEYOND ahead of STATE and of NONE").withRow(1).due(Run.BEYOND, "look", 0, 1, 0);
        run.due(Run.BEYOND, "look", 0, 0, 2).due(Run.STATE, "look", 0, 0, 1).due(0, "dead", 0, 1);
        run.due(Run.BEYOND, "look", 0, 1, 1).due(Run.BEYOND, "look", 0, 0, 2).due(Run.NONE, "look", 0, 0, 1);
    }

    private static void lookNowhere() {
        Run run = deadOne("promise 14: NONE: it would be nowhere", 10).due(Run.NONE, "look", 0, 9, 1);
        dueFault(run, 0, 9);
        run.due(7, "look", 0, 2, 1).due(4, "look", 0, 6, 0).due(Run.NONE, "look", 0, 2, 0).due(Run.NONE, "look", 0, 6, 1);
        run.due(Run.NONE, "look", 0, 0, 0).due(Run.NONE, "look", 0, 9, 1);
        dueFault(run, 3, 6);
    }

    private static void lookDoesNotBurn() {
        Run run = deadOne("promise 14: it does not burn: the FAULT is at p at the most", 10);
        run.due(10, "look", 0, 9, 0).due(9, "look", 0, 8, 0).due(9, "look", 0, 9, 0).due(8, "look", 0, 0, 1);
        dueFault(run, 1, 8);
        run.due(1, "look", 0, 1, 0);
        dueFault(run, 1, 1);
    }

    private static void lookBurnsBehind() {
        Run run = deadOne("promise 14: it burns: it is behind p", 10).due(9, "look", 0, 0, 1).due(8, "look", 0, 1, 1);
        run.due(8, "look", 0, 0, 1);
        dueFault(run, 2, 9);
        run.due(1, "look", 0, 8, 1);
        dueFault(run, 9, 9);
    }

    private static void lookOneLamp() {
        Run run = deadOne("promise 14: one lamp", 1).due(1, "look", 0, 0, 0).due(Run.NONE, "look", 0, 0, 1);
        dueFault(run, 0, 0);
    }

    private static void nextNoSuchString() {
        Run run = town("promise 15: BEYOND").due(Run.BEYOND, "next", 0).due(0, "string", 0, 0, 1, 1, 2, 1);
        run.due(0, "dead", 0, 1).dueForEach(Run.BEYOND, 0, NO_STRING_OF_ONE, "next", 0).due(0, "next", 0);
        Run full = town("promise 15: the last STRING").withRow(23).due(23, "string", 0, 0, 1, 1, 3, 1);
        full.due(0, "dead", 23, 1).due(1, "next", 23).due(Run.BEYOND, "next", 24);
    }

    private static void nextNotDead() {
        Run run = town("promise 15: STATE: it isn't DEAD").withChain(2).due(Run.STATE, "next", 0).due(0, "dead", 0, 1);
        run.due(Run.STATE, "next", 1).due(Run.NONE, "next", 0).due(1, "dead", 0, 0).due(Run.STATE, "next", 0);
    }

    private static void nextKnown() {
        Run run = deadOne("promise 15: NONE: it is known (FIRST is LAST)", 3).due(1, "next", 0).due(2, "look", 0, 1, 0);
        run.due(0, "next", 0).due(1, "look", 0, 0, 1).due(Run.NONE, "next", 0);
        deadOne("promise 15: NONE: one lamp", 1).due(Run.NONE, "next", 0);
    }

    private static void nextIsCut() {
        deadOne("promise 15: FIRST and LAST, by 2, cut: 0 and 1", 2).due(0, "next", 0);
        deadOne("promise 15: FIRST and LAST, by 2: 0 and 2", 3).due(1, "next", 0);
        Run run = deadOne("promise 15: FIRST and LAST, by 2, cut: 0 and 59", 60).due(29, "next", 0);
        run.due(2, "look", 0, 57, 1).due(58, "next", 0);
        Run odd = deadOne("promise 15: FIRST and LAST, by 2, cut: 1 and 2", 3).due(2, "look", 0, 0, 1);
        odd.due(1, "next", 0);
    }

    private static void faultNoSuchString() {
        Run run = town("promise 16: BEYOND").due(Run.BEYOND, "fault", 0, 0).due(Run.BEYOND, "fault", 0, 1).withRow(1);
        run.due(0, "dead", 0, 1).dueForEach(Run.BEYOND, 0, NO_STRING_OF_ONE, "fault", 0, 0);
        run.dueForEach(Run.BEYOND, 0, NO_STRING_OF_ONE, "fault", 0, 1);
        Run full = town("promise 16: the last STRING").withRow(24).due(0, "dead", 23, 1).due(0, "fault", 23, 1);
        full.due(Run.BEYOND, "fault", 24, 1);
    }

    private static void faultNotDead() {
        Run run = town("promise 16: STATE: it isn't DEAD").withChain(2).due(Run.STATE, "fault", 0, 0);
        run.due(Run.STATE, "fault", 0, 1).due(0, "dead", 0, 1).due(Run.STATE, "fault", 1, 0).due(0, "fault", 0, 0);
        run.due(1, "dead", 0, 0).due(Run.STATE, "fault", 0, 1);
    }

    private static void faultAtFirst() {
        dueFault(deadOne("promise 16: at first 0 to LAMPS less 1: one lamp", 1), 0, 0);
        dueFault(deadOne("promise 16: at first 0 to LAMPS less 1: two lamps", 2), 0, 1);
        dueFault(deadOne("promise 16: at first 0 to LAMPS less 1: 60 lamps", 60), 0, 59);
    }
}
