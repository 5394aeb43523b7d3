/** Promise 8: declareDefault. */
public final class DefaultTest {
    private DefaultTest() { }

    public static void main(String[] args) {
        refusesASecondDefault();
        refusesWrongMembers();
        refusesMembersInDefault();
        refusesMembersWithoutACall();
        takesACallOfOne();
        takesTheCallNotTheShortfall();
        refusesTheLastMember();
        needsNoMoreThanOneOther();
        opensTheAuction();
        clearsOldBids();
        leavesAllElse();
        Check.finish();
    }

    private static void refusesASecondDefault() {
        Check.sentence("Tests, in order: phase is NORMAL; member valid; status(member) is ACTIVE; call(member) > 0;"
            + " at least one other member is ACTIVE.");
        Check.refuses("the same member", Scene::auctionWithBids, house -> house.declareDefault(0));
        Check.refuses("a called survivor", Scene::auctionWithBids, house -> house.declareDefault(1));
        Check.refuses("another survivor", Scene::auctionWithBids, house -> house.declareDefault(2));
        ClearingHouse house = Scene.auctionWithBids();
        Check.yes("close", house.closeAuction());
        Check.yes("the called one after it, on its old call", house.declareDefault(1));
    }

    private static void refusesWrongMembers() {
        Check.sentence("member valid;");
        Check.refuses("member 3 of 3", () -> Scene.called(3, 0), house -> house.declareDefault(3));
        for (int wrong : Check.WRONG_INDEXES) {
            Check.refuses("member " + wrong, () -> Scene.called(3, 0), house -> house.declareDefault(wrong));
        }
    }

    private static void refusesMembersInDefault() {
        Check.sentence("status(member) is ACTIVE;");
        Check.refuses("a DEFAULTED member", () -> Scene.closed(3, 0), house -> house.declareDefault(0));
        Check.refuses("a DEFAULTING member", () -> Scene.auction(3, 0), house -> house.declareDefault(0));
    }

    private static ClearingHouse met(int paid) {
        ClearingHouse house = Scene.called(3, 0);
        Check.yes("deposit", house.deposit(0, ClearingHouse.CASH, paid));
        return house;
    }

    private static void refusesMembersWithoutACall() {
        Check.sentence("call(member) > 0;");
        Check.refuses("at the start", () -> new ClearingHouse(3, 2, 0, 10), house -> house.declareDefault(0));
        Check.refuses("the winner of the move", () -> Scene.called(3, 0), house -> house.declareDefault(1));
        Check.refuses("one without positions", () -> Scene.called(3, 0), house -> house.declareDefault(2));
        Check.refuses("a call met to the unit", () -> met(8400), house -> house.declareDefault(0));
        Check.refuses("a call met and more", () -> met(8401), house -> house.declareDefault(0));
    }

    private static void takesACallOfOne() {
        Check.sentence("call(member) > 0;");
        Check.does("a call of 1", met(8399), it -> it.declareDefault(0), "status 0", 1, "call 0", 0);
    }

    /** A shortfall that has not been called is no call, and a call stands although the shortfall is gone. */
    private static void takesTheCallNotTheShortfall() {
        Check.sentence("call(member) > 0;");
        ClearingHouse house = Scene.funded(3, 0);
        Check.yes("trade", house.trade(0, 1, 0, 5));
        Check.due("before callMargins", false, house.declareDefault(0));
        Check.number("calls", 2, house.callMargins());
        Check.yes("the position is given back", house.trade(1, 0, 0, 5));
        Check.reads(house, "margin 0", 0, "cash 0", 0, "call 0", 100);
        Check.does("with the call alone", house, it -> it.declareDefault(0), "status 0", 1, "call 0", 0);
    }

    /** Of M members all called, M - 1 default one after the other; the last is alone with its call. */
    private static ClearingHouse lastOf(int members) {
        ClearingHouse house = new ClearingHouse(members, 1, 0, 10);
        for (int m = 1; m < members; m++) {
            Check.yes("trade", house.trade(m, 0, 0, 1));
        }
        Check.number("calls", members, house.callMargins());
        for (int m = 1; m < members; m++) {
            Check.yes("default", house.declareDefault(m));
            Check.yes("close", house.closeAuction());
        }
        Check.reads(house, "status 0", ClearingHouse.ACTIVE, "call 0", 20 * (members - 1));
        return house;
    }

    private static void refusesTheLastMember() {
        Check.sentence("at least one other member is ACTIVE.");
        for (int members = 2; members <= 8; members++) {
            int given = members;
            Check.refuses("the last of " + members, () -> lastOf(given), house -> house.declareDefault(0));
        }
        Check.yes("the phase stays NORMAL", lastOf(3).settle());
    }

    private static void needsNoMoreThanOneOther() {
        Check.sentence("at least one other member is ACTIVE.");
        ClearingHouse house = Scene.bothCalled(3, 0);
        Check.yes("the first", house.declareDefault(0));
        Check.yes("close", house.closeAuction());
        Check.does("with one other left", house, it -> it.declareDefault(1), "status 1", 1, "call 1", 0);
        Check.does("of two", Scene.bothCalled(2, 0), it -> it.declareDefault(1), "status 1", 1, "call 1", 0);
    }

    private static void opensTheAuction() {
        Check.sentence("The phase becomes AUCTION.");
        ClearingHouse house = Scene.bothCalled(3, 0);
        Check.due("bid before", false, house.bid(2, 1));
        Check.yes("default", house.declareDefault(0));
        Check.due("settle", false, house.settle());
        Check.number("callMargins", -1, house.callMargins());
        Check.yes("bid", house.bid(2, 1));
        Check.yes("close", house.closeAuction());
    }

    private static void clearsOldBids() {
        Check.sentence("status(member) := DEFAULTING; call(member) := 0; all bids are cleared.");
        ClearingHouse house = Scene.auctionWithBids();
        Check.yes("close", house.closeAuction());
        Check.yes("the next default", house.declareDefault(1));
        Check.yes("a bid below those of the first auction", house.bid(3, -5));
        Check.yes("close", house.closeAuction());
        Check.reads(house, "layer 5", 3, "layer 6", -5);
        house = Scene.auctionWithBids();
        Check.yes("close", house.closeAuction());
        Check.yes("the next default", house.declareDefault(1));
        Check.yes("close", house.closeAuction());
        Check.reads(house, "layer 5", ClearingHouse.FORCED_ALLOCATION, "layer 6", 0);
    }

    private static void leavesAllElse() {
        Check.sentence("Positions and money are unchanged; other calls, prices and the waterfall record are unchanged.");
        ClearingHouse house = Scene.bothCalled(4, 70, 30, 31, 32, 33);
        Check.yes("quote", house.quote(0, 90));
        Check.does("the first", house, it -> it.declareDefault(1), "status 1", 1, "call 1", 0);
        Check.yes("bid", house.bid(2, -90));
        Check.yes("close", house.closeAuction());
        Check.reads(house, "layer 0", 90, "layer 1", 31, "layer 2", 59);
        Check.does("the second, with a record", house, it -> it.declareDefault(0), "status 0", 1, "call 0", 0);
    }
}
