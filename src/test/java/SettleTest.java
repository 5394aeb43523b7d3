/** Promise 6: settle. */
public final class SettleTest {
    private static final int CASH = ClearingHouse.CASH;

    private SettleTest() { }

    public static void main(String[] args) {
        waitsForTheAuction();
        marksPositionsToThePrice();
        settlesEveryInstrument();
        usesTheOldSettlementPrice();
        settlesMembersOfAnyStatus();
        settlesFromEdgeToEdge();
        leavesAllElse();
        movesNothingTheSecondTime();
        settlesAnEmptyHouse();
        Check.finish();
    }

    private static ClearingHouse quotedAuction() {
        ClearingHouse house = Scene.auctionWithBids();
        Check.yes("quote", house.quote(0, 60));
        return house;
    }

    private static void waitsForTheAuction() {
        Check.sentence("Refused (false, nothing changes) unless the phase is NORMAL.");
        Check.refuses("settle", SettleTest::quotedAuction, house -> house.settle());
        ClearingHouse house = quotedAuction();
        Check.yes("close", house.closeAuction());
        Check.does("settle after it", house, it -> it.settle(), "settlement 0", 60, "cash 1", 200,
            "cash 2", -30 - 200, "margin 1", 60, "margin 2", 60);
    }

    private static void marksPositionsToThePrice() {
        Check.sentence("every member m, of any status, gets cash(m) += sum over i of pos(m,i) * (P(i) - S(i)),"
            + " using the old S;");
        ClearingHouse house = new ClearingHouse(3, 2, 40, 10);
        Check.yes("trade", house.trade(0, 1, 0, 7));
        Check.does("a quote moves no cash", house, it -> it.quote(0, 111), "price 0", 111);
        Check.does("up", house, it -> it.settle(), "settlement 0", 111, "cash 0", 77, "cash 1", -77,
            "margin 0", 154, "margin 1", 154);
        Check.yes("quote", house.quote(0, 100));
        Check.does("down", house, it -> it.settle(), "settlement 0", 100, "cash 0", 0, "cash 1", 0,
            "margin 0", 140, "margin 1", 140);
    }

    private static void settlesEveryInstrument() {
        Check.sentence("S(i) := P(i) for every instrument.");
        ClearingHouse house = new ClearingHouse(3, 4, 40, 10);
        int[] prices = {90, 101, 250, 1};
        int[] quantities = {3, 5, 0, 2};
        long gain = 0;
        for (int i = 0; i < 4; i++) {
            if (quantities[i] > 0) {
                Check.yes("trade", house.trade(1, 2, i, quantities[i]));
            }
            Check.yes("quote", house.quote(i, prices[i]));
            gain += (long) quantities[i] * (prices[i] - 100);
        }
        Check.yes("settle", house.settle());
        Check.reads(house, "cash 0", 0, "cash 1", gain, "cash 2", -gain);
        for (int i = 0; i < 4; i++) {
            Check.reads(house, "settlement " + i, prices[i], "price " + i, prices[i]);
        }
    }

    /** Only the price at the moment of the settle counts, against the settlement price before it. */
    private static void usesTheOldSettlementPrice() {
        Check.sentence("using the old S;");
        ClearingHouse house = new ClearingHouse(2, 1, 0, 10);
        Check.yes("trade", house.trade(0, 1, 0, 10));
        Check.yes("quote", house.quote(0, 5000));
        Check.yes("quote", house.quote(0, 100));
        Check.does("away and back", house, it -> it.settle());
        Check.yes("quote", house.quote(0, 5000));
        Check.yes("quote", house.quote(0, 103));
        Check.yes("settle", house.settle());
        Check.reads(house, "cash 0", 30, "cash 1", -30);
        Check.yes("quote", house.quote(0, 104));
        Check.yes("settle", house.settle());
        Check.reads(house, "cash 0", 40, "cash 1", -40);
    }

    private static void settlesMembersOfAnyStatus() {
        Check.sentence("every member m, of any status, gets cash(m) += sum over i of pos(m,i) * (P(i) - S(i)),"
            + " using the old S;");
        ClearingHouse house = Scene.auction(3, 0);
        Check.yes("bid", house.bid(2, 9000));
        Check.yes("close", house.closeAuction());
        Check.yes("quote", house.quote(0, 60));
        Check.does("a DEFAULTED member holds nothing", house, it -> it.settle(), "settlement 0", 60,
            "cash 1", 8000 - 4000, "cash 2", -9000 + 4000, "margin 1", 1200, "margin 2", 1200);
        Check.reads(house, "cash 0", 1000);
    }

    private static void settlesFromEdgeToEdge() {
        Check.sentence("every member m, of any status, gets cash(m) += sum over i of pos(m,i) * (P(i) - S(i)),"
            + " using the old S;");
        ClearingHouse house = new ClearingHouse(2, 1, 0, 10);
        Check.yes("quote", house.quote(0, 1));
        Check.yes("settle", house.settle());
        Scene.build(house, 0, 1, 0, 10000);
        Check.yes("quote", house.quote(0, 100000));
        Check.yes("from the least to the greatest price", house.settle());
        Check.reads(house, "cash 0", 999990000L, "cash 1", -999990000L);
        Check.yes("quote", house.quote(0, 1));
        Check.yes("and back", house.settle());
        Check.reads(house, "cash 0", 0, "cash 1", 0);
    }

    private static void leavesAllElse() {
        Check.sentence("P, positions, FUND balances, statuses, the house capital and the waterfall record are"
            + " unchanged.");
        ClearingHouse house = Scene.called(3, 60, 5, 6, 7);
        Check.yes("quote", house.quote(0, 25));
        Check.does("with a call out", house, it -> it.settle(), "settlement 0", 25, "cash 0", -7500, "cash 1", 7500);
        house = Scene.closed(3, 60, 5, 6, 7);
        Check.yes("quote", house.quote(0, 20));
        Check.does("with a record", house, it -> it.settle());
    }

    private static void movesNothingTheSecondTime() {
        Check.sentence("A second settle with no price change in between moves no cash.");
        ClearingHouse house = Scene.called(3, 60, 5, 6, 7);
        Check.yes("quote", house.quote(0, 77));
        Check.yes("quote", house.quote(1, 1));
        Check.yes("settle", house.settle());
        Check.does("the second", house, it -> it.settle());
        Check.does("the third", house, it -> it.settle());
        Check.yes("a trade at the settled price", house.trade(2, 1, 0, 5));
        Check.does("after a trade", house, it -> it.settle());
    }

    private static void settlesAnEmptyHouse() {
        Check.sentence("S(i) := P(i) for every instrument.");
        ClearingHouse house = new ClearingHouse(8, 4, 0, 10);
        Check.does("without positions", house, it -> it.settle());
        Check.yes("quote", house.quote(3, 1));
        Check.does("without positions, a price moved", house, it -> it.settle(), "settlement 3", 1);
        Check.number("cash", 0, house.getBalance(7, CASH));
    }
}
