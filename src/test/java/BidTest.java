/** Promise 9: bid. */
public final class BidTest {
    private static final int WINNER = ClearingHouse.WF_WINNER;
    private static final int WINNING_BID = ClearingHouse.WF_WINNING_BID;

    private BidTest() { }

    public static void main(String[] args) {
        changesNothingToBeSeen();
        refusesWrongInputs();
        refusesOutsideAnAuction();
        refusesMembersInDefault();
        takesTheEdges();
        replacesTheOwnBid();
        takesZero();
        Check.finish();
    }

    private static void closes(ClearingHouse house, int winner, int amount) {
        Check.yes("close", house.closeAuction());
        Check.number("winner", winner, house.getWaterfall(WINNER));
        Check.number("winning bid", amount, house.getWaterfall(WINNING_BID));
    }

    private static void changesNothingToBeSeen() {
        Check.title("bid");
        ClearingHouse house = Scene.auction(4, 10, 1, 2, 3, 4);
        String before = State.of(house);
        Check.yes("bid", house.bid(1, 300));
        Check.yes("bid", house.bid(2, -300));
        Check.due("all that can be read", before, State.of(house));
        closes(house, 1, 300);
    }

    private static void refusesWrongInputs() {
        Check.title("wrong bids");
        ClearingHouse house = Scene.auction(4, 0);
        String before = State.of(house);
        Check.refused("member 4 of 4", house.bid(4, 1), before, house);
        for (int wrong : Check.WRONG_INDEXES) {
            Check.refused("member " + wrong, house.bid(wrong, 1), before, house);
        }
        for (int wrong : new int[] {1000001, -1000001, Integer.MAX_VALUE, Integer.MIN_VALUE}) {
            Check.refused("amount " + wrong, house.bid(1, wrong), before, house);
        }
        Check.refused("the defaulter", house.bid(0, 1), before, house);
        closes(house, ClearingHouse.FORCED_ALLOCATION, 0);
    }

    private static void refusesOutsideAnAuction() {
        Check.title("bid in the NORMAL phase");
        ClearingHouse house = Scene.called(3, 0);
        String before = State.of(house);
        Check.refused("before", house.bid(1, 5), before, house);
        Check.yes("default", house.declareDefault(0));
        closes(house, ClearingHouse.FORCED_ALLOCATION, 0);
        before = State.of(house);
        Check.refused("after", house.bid(1, 5), before, house);
    }

    private static void refusesMembersInDefault() {
        Check.title("bid of a DEFAULTED member");
        ClearingHouse house = new ClearingHouse(3, 1, 0, 10);
        Check.yes("trade", house.trade(0, 1, 0, 5));
        Check.number("calls", 2, house.callMargins());
        Check.yes("default", house.declareDefault(0));
        Check.yes("bid", house.bid(2, 1));
        Check.yes("close", house.closeAuction());
        Check.yes("default", house.declareDefault(1));
        String before = State.of(house);
        Check.refused("DEFAULTED", house.bid(0, 900), before, house);
        Check.yes("ACTIVE", house.bid(2, 800));
        closes(house, 2, 800);
    }

    private static void takesTheEdges() {
        Check.title("the greatest and the least bid");
        ClearingHouse house = Scene.auction(3, 0);
        Check.yes("greatest", house.bid(1, 1000000));
        Check.yes("just below", house.bid(2, 999999));
        closes(house, 1, 1000000);
        house = Scene.auction(3, 0);
        Check.yes("least", house.bid(1, -1000000));
        closes(house, 1, -1000000);
    }

    private static void replacesTheOwnBid() {
        Check.title("a second bid");
        ClearingHouse house = Scene.auction(4, 0);
        Check.yes("high", house.bid(1, 500));
        Check.yes("other", house.bid(2, 100));
        Check.yes("lower", house.bid(1, 50));
        closes(house, 2, 100);
        house = Scene.auction(4, 0);
        Check.yes("low", house.bid(2, 50));
        Check.yes("other", house.bid(1, 100));
        Check.yes("higher", house.bid(2, 101));
        Check.due("a refused bid replaces nothing", false, house.bid(2, 1000001));
        closes(house, 2, 101);
    }

    private static void takesZero() {
        Check.title("a bid of 0");
        ClearingHouse house = Scene.auction(3, 0);
        Check.yes("zero", house.bid(2, 0));
        Check.yes("below zero", house.bid(1, -1));
        closes(house, 2, 0);
        Check.number("the portfolio", 100, house.getPosition(2, 0));
    }
}
