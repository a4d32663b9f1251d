/** The boundary cases of promises 23 to 25 and of what the Terms say of shares; a test for each sentence. */
public final class EdgesOfSharesTest {
    public static void main(String[] args) {
        frontShop();
        frontNumbers();
        partNumbers();
        shareShop();
        shareBill();
        shareTownIsCut();
        shareWithoutFronts();
        shareAllToTheTown();
        shareNothingToTheTown();
        shareWholeParts();
        shareGreatestRests();
        shareOfSeveralTheLeast();
        shareAsManyAsAreLeft();
        shareNoFrontNoCoin();
        shareGreatest();
        Run.end();
    }

    /** Fronts of the shops from 0 on, and the town's part. */
    private static Run shops(String name, int part, int... fronts) {
        Run run = new Run(name).due(50, "part", part);
        for (int shop = 0; shop < fronts.length; shop++) {
            run.due(0, "front", shop, fronts[shop]);
        }
        return run;
    }

    /** The town's share, then the shops'; together they are the bill. */
    private static void dueShares(Run run, int bill, int... want) {
        int sum = 0;
        for (int shop = -1; shop < 8; shop++) {
            int share = shop + 1 < want.length ? want[shop + 1] : 0;
            sum += share;
            run.due(share, "share", shop, bill);
        }
        if (sum != bill) {
            throw new IllegalStateException("the test's own shares of " + bill + " are wrong");
        }
    }

    private static void frontShop() {
        Run run = new Run("promise 23: BEYOND: SHOPS 0 .. 7").dueForEach(Run.BEYOND, 0, Run.beside(0, 7), "front", 0, 5);
        for (int shop = 0; shop < 8; shop++) {
            run.due(0, "front", shop, shop + 1).due(shop + 1, "front", shop, 9);
        }
        run.dueForEach(Run.BEYOND, 0, Run.beside(0, 7), "front", 0, 5).due(9, "front", 0, 0).due(9, "front", 7, 0);
    }

    private static void frontNumbers() {
        Run run = new Run("promise 23: BEYOND: FRONTS (0 .. 1000; 0 at first)");
        run.dueForEach(Run.BEYOND, 1, Run.beside(0, 1000), "front", 2, 5).due(0, "front", 2, 1000);
        run.dueForEach(Run.BEYOND, 1, Run.beside(0, 1000), "front", 2, 5).due(1000, "front", 2, 999);
        run.due(999, "front", 2, 1).due(1, "front", 2, 0).due(0, "front", 2, 0);
    }

    private static void partNumbers() {
        Run run = new Run("promise 24: BEYOND: PART (0 .. 100; 50 at first)");
        run.dueForEach(Run.BEYOND, 0, Run.beside(0, 100), "part", 5).due(50, "part", 100);
        run.dueForEach(Run.BEYOND, 0, Run.beside(0, 100), "part", 5).due(100, "part", 0).due(0, "part", 99);
        run.due(99, "part", 1).due(1, "part", 50);
    }

    private static void shareShop() {
        Run run = new Run("promise 25: BEYOND: there is no such one (SHOPS 0 .. 7; -1: the TOWN)");
        run.dueForEach(Run.BEYOND, 0, Run.beside(-1, 7), "share", 0, 10).due(0, "front", 7, 1).due(0, "front", 0, 1);
        run.dueForEach(Run.BEYOND, 0, Run.beside(-1, 7), "share", 0, 10);
        run.due(5, "share", -1, 10).due(3, "share", 0, 10).due(2, "share", 7, 10);
    }

    private static void shareBill() {
        Run run = shops("promise 25: BEYOND: bill isn't 0 .. 1000000", 50, 1);
        for (int shop = -1; shop < 8; shop++) {
            run.dueForEach(Run.BEYOND, 1, Run.beside(0, 1000000), "share", shop, 1);
        }
        dueShares(run, 0, 0, 0);
        dueShares(run, 1, 0, 1);
        dueShares(run, 999999, 499999, 500000);
        dueShares(run, 1000000, 500000, 500000);
    }

    private static void shareTownIsCut() {
        Run run = shops("Terms 4: the TOWN pays v times its PART, by 100, cut", 1, 1);
        dueShares(run, 99, 0, 99);
        dueShares(run, 100, 1, 99);
        dueShares(run, 199, 1, 198);
        run.due(1, "part", 99);
        dueShares(run, 1, 0, 1);
        dueShares(run, 101, 99, 2);
    }

    private static void shareWithoutFronts() {
        Run run = shops("Terms 4: without FRONTS the TOWN pays all", 0);
        dueShares(run, 1000000, 1000000);
        dueShares(run, 0, 0);
        run.due(0, "front", 7, 1);
        dueShares(run, 10, 0, 0, 0, 0, 0, 0, 0, 0, 10);
        run.due(1, "front", 7, 0);
        dueShares(run, 10, 10);
    }

    private static void shareAllToTheTown() {
        Run run = shops("Terms 4: PART 100", 100, 1, 1000);
        dueShares(run, 1, 1);
        dueShares(run, 1000000, 1000000);
    }

    private static void shareNothingToTheTown() {
        Run run = shops("Terms 4: PART 0", 0, 1, 1);
        dueShares(run, 1, 0, 1);
        dueShares(run, 1000000, 0, 500000, 500000);
    }

    private static void shareWholeParts() {
        Run run = shops("Terms 4: each the whole part", 0, 1, 2, 4);
        dueShares(run, 7, 0, 1, 2, 4);
        dueShares(run, 0, 0);
        dueShares(run, 700000, 0, 100000, 200000, 400000);
    }

    private static void shareGreatestRests() {
        Run run = shops("Terms 4: one coin more to those with the greatest rests", 0, 1, 2, 4);
        dueShares(run, 1, 0, 0, 0, 1);
        dueShares(run, 3, 0, 0, 1, 2);
        dueShares(run, 8, 0, 1, 2, 5);
        dueShares(run, 6, 0, 1, 2, 3);
    }

    private static void shareOfSeveralTheLeast() {
        Run run = shops("Terms 4: of several the least number", 0, 3, 3, 3, 3, 3, 3, 3, 3);
        dueShares(run, 1, 0, 1);
        dueShares(run, 9, 0, 2, 1, 1, 1, 1, 1, 1, 1);
        Run last = shops("Terms 4: of several, and a greater rest behind them", 0, 1, 1, 3);
        dueShares(last, 1, 0, 0, 0, 1);
        dueShares(last, 2, 0, 1, 0, 1);
        dueShares(last, 3, 0, 1, 0, 2);
        dueShares(last, 4, 0, 1, 1, 2);
    }

    private static void shareAsManyAsAreLeft() {
        Run run = shops("Terms 4: as many as are left: none to 7", 0, 5, 5, 5, 5, 5, 5, 5, 5);
        dueShares(run, 7, 0, 1, 1, 1, 1, 1, 1, 1, 0);
        dueShares(run, 8, 0, 1, 1, 1, 1, 1, 1, 1, 1);
        dueShares(run, 15, 0, 2, 2, 2, 2, 2, 2, 2, 1);
    }

    private static void shareNoFrontNoCoin() {
        Run run = shops("Terms 4: a SHOP without FRONTS pays nothing", 0, 0, 3, 0, 3, 0, 3);
        dueShares(run, 1, 0, 0, 1);
        dueShares(run, 2, 0, 0, 1, 0, 1);
        dueShares(run, 5, 0, 0, 2, 0, 2, 0, 1);
    }

    private static void shareGreatest() {
        Run run = shops("promise 25: the greatest BILL and FRONTS", 0, 1000, 1000, 1000, 1000, 1000, 1000, 1000, 1000);
        dueShares(run, 1000000, 0, 125000, 125000, 125000, 125000, 125000, 125000, 125000, 125000);
        dueShares(run, 999999, 0, 125000, 125000, 125000, 125000, 125000, 125000, 125000, 124999);
        Run one = shops("promise 25: the greatest BILL and one SHOP", 0, 1000);
        dueShares(one, 1000000, 0, 1000000);
        Run two = shops("promise 25: the greatest BILL, the greatest and the least FRONTS", 0, 1, 1000);
        dueShares(two, 1000000, 0, 999, 999001);
        two.due(0, "part", 100).due(1000000, "share", -1, 1000000).due(100, "part", 99).due(990000, "share", -1, 1000000);
    }
}
