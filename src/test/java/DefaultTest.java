/** Promise 8: declareDefault. */
public final class DefaultTest {
    private static final int CALL = ClearingHouse.CALL;

    private DefaultTest() { }

    public static void main(String[] args) {
        opensTheAuction();
        refusesWrongMembers();
        refusesMembersWithoutACall();
        refusesASecondDefault();
        refusesMembersInDefault();
        refusesTheLastMember();
        clearsOldBids();
        Check.finish();
    }

    private static void opensTheAuction() {
        Check.title("declareDefault");
        ClearingHouse house = new ClearingHouse(3, 1, 70, 10);
        Check.yes("fund", house.deposit(0, ClearingHouse.FUND, 30));
        Check.yes("trade", house.trade(0, 1, 0, 5));
        Check.number("calls", 2, house.callMargins());
        Check.yes("default", house.declareDefault(0));
        Check.number("status", ClearingHouse.DEFAULTING, house.getStatus(0));
        Check.number("call", 0, house.getMargin(0, CALL));
        Check.number("the other call", 100, house.getMargin(1, CALL));
        Check.number("the other status", ClearingHouse.ACTIVE, house.getStatus(1));
        Check.number("position", 5, house.getPosition(0, 0));
        Check.number("fund", 30, house.getBalance(0, ClearingHouse.FUND));
        Check.number("cash", 0, house.getBalance(0, ClearingHouse.CASH));
        Check.number("house", 70, house.getHouse());
        Check.number("waterfall", ClearingHouse.NO_WINNER, house.getWaterfall(ClearingHouse.WF_WINNER));
        Check.yes("the phase is AUCTION", house.bid(2, 1));
        Check.due("settle", false, house.settle());
    }

    private static void refusesWrongMembers() {
        Check.title("default of wrong members");
        ClearingHouse house = Scene.called(3, 0);
        String before = State.of(house);
        Check.refused("member 3 of 3", house.declareDefault(3), before, house);
        for (int wrong : Check.WRONG_INDEXES) {
            Check.refused("member " + wrong, house.declareDefault(wrong), before, house);
        }
        Check.yes("the phase is still NORMAL", house.settle());
    }

    private static void refusesMembersWithoutACall() {
        Check.title("default without a call");
        ClearingHouse house = Scene.called(3, 0);
        String before = State.of(house);
        Check.refused("the winner of the move", house.declareDefault(1), before, house);
        Check.refused("a member without positions", house.declareDefault(2), before, house);
        Check.yes("all but one", house.deposit(0, ClearingHouse.CASH, 8399));
        ClearingHouse met = Scene.called(3, 0);
        Check.yes("the whole call", met.deposit(0, ClearingHouse.CASH, 8400));
        before = State.of(met);
        Check.refused("a met call", met.declareDefault(0), before, met);
        Check.yes("a call of 1", house.declareDefault(0));
    }

    private static void refusesASecondDefault() {
        Check.title("default in an auction");
        ClearingHouse house = new ClearingHouse(3, 1, 0, 10);
        Check.yes("trade", house.trade(0, 1, 0, 5));
        Check.number("calls", 2, house.callMargins());
        Check.yes("default", house.declareDefault(0));
        String before = State.of(house);
        Check.refused("the same member", house.declareDefault(0), before, house);
        Check.refused("another member", house.declareDefault(1), before, house);
        Check.yes("close", house.closeAuction());
        Check.yes("another member after it, on its old call", house.declareDefault(1));
    }

    private static void refusesMembersInDefault() {
        Check.title("default of a DEFAULTED member");
        ClearingHouse house = Scene.closed(3, 0);
        String before = State.of(house);
        Check.refused("the same member", house.declareDefault(0), before, house);
    }

    /** Two members are called, one defaults: the other is alone with its call. */
    private static void refusesTheLastMember() {
        Check.title("default of the last member");
        ClearingHouse house = new ClearingHouse(2, 1, 0, 10);
        Check.yes("trade", house.trade(0, 1, 0, 5));
        Check.number("calls", 2, house.callMargins());
        Check.yes("the first", house.declareDefault(0));
        Check.yes("close", house.closeAuction());
        Check.number("the second is called still", 100, house.getMargin(1, CALL));
        String before = State.of(house);
        Check.refused("the last member", house.declareDefault(1), before, house);
        Check.yes("the phase is still NORMAL", house.settle());
    }

    private static void clearsOldBids() {
        Check.title("bids of an earlier auction");
        ClearingHouse house = new ClearingHouse(4, 1, 0, 10);
        Check.yes("trade", house.trade(0, 1, 0, 5));
        Check.number("calls", 2, house.callMargins());
        Check.yes("default", house.declareDefault(0));
        Check.yes("bid", house.bid(2, 50));
        Check.yes("bid", house.bid(3, 40));
        Check.yes("close", house.closeAuction());
        Check.yes("second default", house.declareDefault(1));
        Check.yes("close", house.closeAuction());
        Check.number("no bid is left", ClearingHouse.FORCED_ALLOCATION, house.getWaterfall(ClearingHouse.WF_WINNER));
    }
}
