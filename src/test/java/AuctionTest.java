import java.math.BigInteger;

/** Promise 10, closeAuction, and promise 17, getWaterfall. Member 0 has lost 8000 in most of them. */
public final class AuctionTest {
    private static final int CASH = ClearingHouse.CASH;
    private static final int FUND = ClearingHouse.FUND;
    private static final int FORCED = ClearingHouse.FORCED_ALLOCATION;

    private AuctionTest() { }

    public static void main(String[] args) {
        refusesOutsideAnAuction();
        sellsToTheHighestBidder();
        paysABidderWhoAsks();
        breaksTiesByIndex();
        forcesThePortfolioOnTheFirst();
        forcesThePortfolioByFunds();
        forcesShortsAndSmallQuantities();
        mixesWholeAndBrokenParts();
        passesOverMembersWithoutFunds();
        goesAboveTheLimit();
        leavesCashWithTheDefaulter();
        drawsLayerByLayer();
        splitsTheSurvivorsPart();
        takesTheWholeFundsAtTheEdge();
        runsTheHouseIntoDebt();
        sparesAHouseInDebt();
        keepsCallsAndPrices();
        sparesTheFundsOfEarlierDefaulters();
        splitsPast64Bits();
        readsLayers();
        Check.finish();
    }

    private static void layers(ClearingHouse house, long... due) {
        for (int layer = 0; layer < 7; layer++) {
            Check.number("layer " + layer, due[layer], house.getWaterfall(layer));
        }
    }

    private static void accounts(ClearingHouse house, int account, long... due) {
        for (int m = 0; m < due.length; m++) {
            Check.number((account == CASH ? "cash " : "fund ") + m, due[m], house.getBalance(m, account));
        }
    }

    private static void positions(ClearingHouse house, int instrument, int... due) {
        for (int m = 0; m < due.length; m++) {
            Check.number("position " + m + " " + instrument, due[m], house.getPosition(m, instrument));
        }
    }

    private static void statuses(ClearingHouse house, int... due) {
        for (int m = 0; m < due.length; m++) {
            Check.number("status " + m, due[m], house.getStatus(m));
        }
    }

    private static void refusesOutsideAnAuction() {
        Check.title("closeAuction in the NORMAL phase");
        ClearingHouse house = Scene.called(3, 0);
        String before = State.of(house);
        Check.refused("before", house.closeAuction(), before, house);
        Check.yes("default", house.declareDefault(0));
        Check.yes("close", house.closeAuction());
        before = State.of(house);
        Check.refused("twice", house.closeAuction(), before, house);
    }

    private static void sellsToTheHighestBidder() {
        Check.title("the highest bid");
        ClearingHouse house = Scene.auction(4, 1000, 9000, 1, 2, 3);
        Check.yes("bid", house.bid(1, 30));
        Check.yes("bid", house.bid(2, 500));
        Check.yes("bid", house.bid(3, 499));
        Check.yes("close", house.closeAuction());
        positions(house, 0, 0, -100, 100, 0);
        accounts(house, CASH, 0, 8000, -500, 0);
        accounts(house, FUND, 1500, 1, 2, 3);
        layers(house, 7500, 7500, 0, 0, 0, 2, 500);
        statuses(house, 2, 0, 0, 0);
        Check.number("house", 1000, house.getHouse());
        Check.yes("the phase is NORMAL", house.settle());
    }

    private static void paysABidderWhoAsks() {
        Check.title("bids below 0");
        ClearingHouse house = Scene.auction(3, 1000, 9000);
        Check.yes("bid", house.bid(1, -900));
        Check.yes("bid", house.bid(2, -500));
        Check.yes("close", house.closeAuction());
        positions(house, 0, 0, -100, 100);
        accounts(house, CASH, 0, 8000, 500);
        accounts(house, FUND, 500, 0, 0);
        layers(house, 8500, 8500, 0, 0, 0, 2, -500);
    }

    private static void breaksTiesByIndex() {
        Check.title("a tie");
        ClearingHouse house = Scene.auction(4, 0);
        Check.yes("bid", house.bid(3, 7));
        Check.yes("bid", house.bid(2, 7));
        Check.yes("bid", house.bid(1, 6));
        Check.yes("close", house.closeAuction());
        Check.number("winner", 2, house.getWaterfall(ClearingHouse.WF_WINNER));
        positions(house, 0, 0, -100, 100, 0);
    }

    private static void forcesThePortfolioOnTheFirst() {
        Check.title("no bid and no funds");
        ClearingHouse house = Scene.called(4, 0, 250);
        Check.yes("another position", house.trade(2, 0, 1, 9));
        Check.yes("default", house.declareDefault(0));
        Check.yes("close", house.closeAuction());
        positions(house, 0, 0, 0, 0, 0);
        positions(house, 1, 0, -9, 9, 0);
        accounts(house, CASH, 0, 8000, 0, 0);
        layers(house, 8000, 250, 0, 0, 7750, FORCED, 0);
        Check.number("house", -7750, house.getHouse());
        statuses(house, 2, 0, 0, 0);
    }

    private static void forcesThePortfolioByFunds() {
        Check.title("no bid, by funds");
        ClearingHouse house = Scene.auction(4, 8000, 0, 1, 1, 1);
        Check.yes("close", house.closeAuction());
        positions(house, 0, 0, -100 + 34, 33, 33);
        accounts(house, FUND, 0, 1, 1, 1);
        layers(house, 8000, 0, 8000, 0, 0, FORCED, 0);
        house = Scene.auction(4, 8000, 50, 5, 3, 2);
        Check.yes("close", house.closeAuction());
        positions(house, 0, 0, -100 + 50, 30, 20);
        accounts(house, FUND, 0, 5, 3, 2);
    }

    /** Member 2 fails with 2 short of instrument 0 and 5 long of instrument 1. */
    private static void forcesShortsAndSmallQuantities() {
        Check.title("no bid, a short position");
        ClearingHouse house = new ClearingHouse(4, 3, 0, 10);
        Check.yes("fund", house.deposit(0, FUND, 100));
        Check.yes("fund", house.deposit(1, FUND, 100));
        Check.yes("fund", house.deposit(3, FUND, 100));
        Check.yes("short", house.trade(0, 2, 0, 2));
        Check.yes("long", house.trade(2, 0, 1, 5));
        Check.yes("the others", house.trade(0, 1, 2, 4));
        Check.yes("calls", house.callMargins() > 0);
        Check.yes("default", house.declareDefault(2));
        Check.yes("close", house.closeAuction());
        positions(house, 0, 2 - 1, -1, 0, 0);
        positions(house, 1, -5 + 2, 2, 0, 1);
        positions(house, 2, 4, -4, 0, 0);
        layers(house, 0, 0, 0, 0, 0, FORCED, 0);
    }

    /** 2 over 2, 1 and 1: one part comes out even and still gets the unit left over, being the first. */
    private static void mixesWholeAndBrokenParts() {
        Check.title("no bid, an even part");
        ClearingHouse house = Scene.called(4, 8000, 0, 2, 1, 1);
        Check.yes("two of another instrument", house.trade(0, 1, 1, 2));
        Check.yes("default", house.declareDefault(0));
        Check.yes("close", house.closeAuction());
        positions(house, 0, 0, -100 + 50, 25, 25);
        positions(house, 1, 0, -2 + 2, 0, 0);
    }

    private static void passesOverMembersWithoutFunds() {
        Check.title("no bid, funds of some");
        ClearingHouse house = Scene.auction(5, 8000, 0, 0, 7, 0, 4);
        Check.yes("close", house.closeAuction());
        // 100 * 7 / 11 = 63, 100 * 4 / 11 = 36, and one unit more for the first of them.
        positions(house, 0, 0, -100, 64, 0, 36);
        house = Scene.auction(3, 8000, 600, 0, 7);
        Check.yes("close", house.closeAuction());
        positions(house, 0, 0, -100, 100);
    }

    /** Members 0 and 1 are long to the limit, 2 and 3 short; 1 takes over from 0, and 2 from 3. */
    private static void goesAboveTheLimit() {
        Check.title("above the limit");
        for (boolean forced : new boolean[] {false, true}) {
            ClearingHouse house = new ClearingHouse(4, 1, 0, 10);
            for (int n = 0; n < 10; n++) {
                Check.yes("trade", house.trade(1, 2, 0, 1000));
                Check.yes("trade", house.trade(0, 3, 0, 1000));
            }
            Check.number("calls", 4, house.callMargins());
            takesOver(house, 0, 1, forced);
            positions(house, 0, 0, 20000, -10000, -10000);
            takesOver(house, 3, 2, forced);
            positions(house, 0, 0, 20000, -20000, 0);
            Check.number("margin", 20000 * 20, house.getMargin(2, ClearingHouse.REQUIREMENT));
        }
    }

    private static void takesOver(ClearingHouse house, int failed, int taker, boolean forced) {
        Check.yes("default", house.declareDefault(failed));
        if (forced) {
            Check.yes("fund", house.deposit(taker, FUND, 5));
        } else {
            Check.yes("bid", house.bid(taker, 0));
        }
        Check.yes("close", house.closeAuction());
        if (forced) {
            Check.yes("fund", house.withdraw(taker, FUND, 5));
        }
    }

    private static void leavesCashWithTheDefaulter() {
        Check.title("cash above 0");
        ClearingHouse house = Scene.auction(3, 1000, 9, 8, 7);
        Check.yes("bid", house.bid(1, 8001));
        Check.yes("close", house.closeAuction());
        accounts(house, CASH, 1, 8000 - 8001, 0);
        accounts(house, FUND, 9, 8, 7);
        layers(house, 0, 0, 0, 0, 0, 1, 8001);
        Check.number("house", 1000, house.getHouse());
        house = Scene.auction(3, 1000, 9, 8, 7);
        Check.yes("bid", house.bid(1, 8000));
        Check.yes("close", house.closeAuction());
        accounts(house, CASH, 0, 0, 0);
        layers(house, 0, 0, 0, 0, 0, 1, 8000);
    }

    private static void drawsLayerByLayer() {
        Check.title("the layers");
        int[][] cases = {
            // fund of the defaulter, house, fund of member 1; then layers 1 to 4
            {8001, 500, 600, 8000, 0, 0, 0}, {8000, 500, 600, 8000, 0, 0, 0}, {7999, 500, 600, 7999, 1, 0, 0},
            {7000, 1000, 600, 7000, 1000, 0, 0}, {7000, 999, 600, 7000, 999, 1, 0},
            {7000, 400, 600, 7000, 400, 600, 0}, {7000, 399, 600, 7000, 399, 600, 1}, {0, 0, 0, 0, 0, 0, 8000},
            {0, 0, 8001, 0, 0, 8000, 0}, {0, 8000, 5, 0, 8000, 0, 0}, {0, 8001, 5, 0, 8000, 0, 0}};
        for (int[] given : cases) {
            ClearingHouse house = Scene.auction(3, given[1], given[0], given[2]);
            Check.yes("bid", house.bid(2, 0));
            Check.yes("close", house.closeAuction());
            layers(house, 8000, given[3], given[4], given[5], given[6], 2, 0);
            accounts(house, FUND, given[0] - given[3], given[2] - given[5], 0);
            accounts(house, CASH, 0, 8000, 0);
            Check.number("house", given[1] - given[4] - given[6], house.getHouse());
        }
    }

    private static void splitsTheSurvivorsPart() {
        Check.title("the survivors' funds");
        ClearingHouse house = Scene.auction(5, 0, 0, 4000, 0, 3000, 5000);
        Check.yes("bid", house.bid(2, 0));
        Check.yes("close", house.closeAuction());
        // 8000 over 12000: 2666, 0, 2000, 3333 and one unit left, for the first with a fund.
        accounts(house, FUND, 0, 4000 - 2667, 0, 1000, 5000 - 3333);
        layers(house, 8000, 0, 0, 8000, 0, 2, 0);
        house = Scene.auction(5, 7998, 0, 0, 3, 3, 3);
        Check.yes("bid", house.bid(1, 0));
        Check.yes("close", house.closeAuction());
        accounts(house, FUND, 0, 0, 2, 2, 3);
        layers(house, 8000, 0, 7998, 2, 0, 1, 0);
    }

    private static void takesTheWholeFundsAtTheEdge() {
        Check.title("the whole funds");
        ClearingHouse house = Scene.auction(4, 0, 0, 5000, 2000, 1000);
        Check.yes("close", house.closeAuction());
        accounts(house, FUND, 0, 0, 0, 0);
        layers(house, 8000, 0, 0, 8000, 0, FORCED, 0);
        Check.number("house", 0, house.getHouse());
        house = Scene.auction(4, 0, 0, 5000, 2000, 1001);
        Check.yes("close", house.closeAuction());
        // 8000 over 8001: 4999, 1999, 1000 and two units left.
        accounts(house, FUND, 0, 0, 0, 1);
    }

    private static void runsTheHouseIntoDebt() {
        Check.title("a house in debt");
        ClearingHouse house = Scene.auction(3, 100, 10, 20, 30);
        Check.yes("bid", house.bid(2, -1000000));
        Check.yes("close", house.closeAuction());
        layers(house, 1008000, 10, 100, 50, 1007840, 2, -1000000);
        Check.number("house", -1007840, house.getHouse());
        accounts(house, CASH, 0, 8000, 1000000);
        accounts(house, FUND, 0, 0, 0);
    }

    /** A house below 0 pays nothing in its own layer; the excess still goes to it. */
    private static void sparesAHouseInDebt() {
        Check.title("a second loss");
        ClearingHouse house = Scene.auction(4, 0);
        Check.yes("bid", house.bid(2, 0));
        Check.yes("close", house.closeAuction());
        Check.number("house", -8000, house.getHouse());
        Check.yes("fund", house.deposit(3, FUND, 70));
        Check.yes("quote", house.quote(0, 10));
        Check.yes("settle", house.settle());
        Check.number("calls", 1, house.callMargins());
        Check.yes("default", house.declareDefault(2));
        Check.yes("bid", house.bid(3, 0));
        Check.yes("close", house.closeAuction());
        layers(house, 1000, 0, 0, 70, 930, 3, 0);
        Check.number("house", -8930, house.getHouse());
        statuses(house, 2, 0, 2, 0);
    }

    private static void keepsCallsAndPrices() {
        Check.title("calls and prices");
        ClearingHouse house = new ClearingHouse(3, 1, 0, 10);
        Check.yes("trade", house.trade(0, 1, 0, 5));
        Check.number("calls", 2, house.callMargins());
        Check.yes("default", house.declareDefault(0));
        Check.yes("quote", house.quote(0, 150));
        Check.yes("bid", house.bid(1, 3));
        Check.yes("close", house.closeAuction());
        Check.number("the call of the winner", 100, house.getMargin(1, ClearingHouse.CALL));
        Check.number("its requirement", 0, house.getMargin(1, ClearingHouse.REQUIREMENT));
        Check.number("current", 150, house.getPrice(0, ClearingHouse.CURRENT));
        Check.number("settlement", 100, house.getPrice(0, ClearingHouse.SETTLEMENT));
    }

    /** A DEFAULTED member is no survivor: its fund bears nothing and its share is not counted. */
    private static void sparesTheFundsOfEarlierDefaulters() {
        Check.title("the fund of an earlier defaulter");
        ClearingHouse house = new ClearingHouse(4, 1, 0, 10);
        Check.yes("fund", house.deposit(0, FUND, 1000));
        Check.yes("fund", house.deposit(2, FUND, 10));
        Check.yes("fund", house.deposit(3, FUND, 30));
        Check.yes("trade", house.trade(0, 1, 0, 1));
        Check.number("calls", 2, house.callMargins());
        Check.yes("default", house.declareDefault(0));
        Check.yes("bid", house.bid(1, 0));
        Check.yes("close", house.closeAuction());
        accounts(house, FUND, 1000, 0, 10, 30);
        Check.yes("trade", house.trade(1, 2, 0, 4));
        Check.yes("quote", house.quote(0, 95));
        Check.yes("settle", house.settle());
        Check.yes("calls", house.callMargins() > 0);
        Check.yes("default", house.declareDefault(1));
        Check.yes("close", house.closeAuction());
        positions(house, 0, 0, 0, -4 + 1, 3);
        accounts(house, FUND, 1000, 0, 5, 15);
        layers(house, 20, 0, 0, 20, 0, FORCED, 0);
    }

    /** A loss and funds whose product does not fit 64 bits: the parts are still the true floors. */
    private static void splitsPast64Bits() {
        Check.title("large parts");
        ClearingHouse house = new ClearingHouse(4, 4, 1, 10);
        int[] deposits = {0, 4000, 2500, 1};
        for (int m = 0; m < 4; m++) {
            for (int n = 0; n < deposits[m]; n++) {
                Check.yes("fund", house.deposit(m, FUND, 1000000 - m));
            }
        }
        for (int i = 0; i < 4; i++) {
            for (int n = 0; n < 10; n++) {
                Check.yes("trade", house.trade(1, 0, i, 1000));
            }
            Check.yes("quote", house.quote(i, 100000));
        }
        Check.yes("settle", house.settle());
        Check.number("loss", -3996000000L, house.getBalance(0, CASH));
        Check.yes("calls", house.callMargins() > 0);
        Check.yes("default", house.declareDefault(0));
        Check.yes("bid", house.bid(1, 0));
        Check.yes("close", house.closeAuction());
        long shared = 3996000000L - 1;
        layers(house, 3996000000L, 0, 1, shared, 0, 1, 0);
        long[] funds = {0, 4000L * 999999, 2500L * 999998, 999997};
        long total = funds[1] + funds[2] + funds[3];
        long left = shared;
        for (int m = 1; m < 4; m++) {
            left -= floor(shared, funds[m], total);
        }
        for (int m = 1; m < 4; m++) {
            long due = funds[m] - floor(shared, funds[m], total) - (m <= left ? 1 : 0);
            Check.number("fund " + m, due, house.getBalance(m, FUND));
        }
    }

    private static long floor(long amount, long weight, long total) {
        BigInteger product = BigInteger.valueOf(amount).multiply(BigInteger.valueOf(weight));
        return product.divide(BigInteger.valueOf(total)).longValueExact();
    }

    private static void readsLayers() {
        Check.title("getWaterfall");
        ClearingHouse house = Scene.closed(4, 1000, 2000, 300, 400);
        layers(house, 8000, 2000, 1000, 700, 4300, FORCED, 0);
        Check.number("layer 7", 0, house.getWaterfall(7));
        for (int wrong : Check.WRONG_INDEXES) {
            Check.number("layer " + wrong, 0, house.getWaterfall(wrong));
        }
    }
}
