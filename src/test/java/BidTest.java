/** Promise 9: bid. Bids cannot be read, so each test closes the auction to see them. */
public final class BidTest {
    private BidTest() { }

    public static void main(String[] args) {
        refusesOutsideAnAuction();
        refusesWrongMembers();
        refusesMembersInDefault();
        refusesTooLowAmounts();
        refusesTooHighAmounts();
        takesTheEdges();
        takesAmountsBelowZero();
        replacesTheOwnBid();
        takesZero();
        changesNothingToBeSeen();
        leavesOtherBids();
        asksForNoMoney();
        Check.finish();
    }

    private static void closes(ClearingHouse house, int winner, int amount) {
        Check.yes("close", house.closeAuction());
        Check.reads(house, "layer 5", winner, "layer 6", amount);
    }

    private static void refusesOutsideAnAuction() {
        Check.sentence("Tests, in order: phase is AUCTION; member valid; status(member) is ACTIVE;"
            + " -MAX_AMOUNT <= amount <= MAX_AMOUNT.");
        Check.refuses("at the start", () -> new ClearingHouse(3, 1, 0, 10), house -> house.bid(1, 5));
        Check.refuses("before the default", () -> Scene.called(3, 0), house -> house.bid(1, 5));
        Check.refuses("after the closing", () -> Scene.closed(3, 0), house -> house.bid(1, 5));
        ClearingHouse house = Scene.called(3, 0);
        Check.due("too early", false, house.bid(2, 5));
        Check.yes("default", house.declareDefault(0));
        closes(house, ClearingHouse.FORCED_ALLOCATION, 0);
    }

    private static void refusesWrongMembers() {
        Check.sentence("member valid;");
        Check.refuses("member 4 of 4", Scene::auctionWithBids, house -> house.bid(4, 900));
        for (int wrong : Check.WRONG_INDEXES) {
            Check.refuses("member " + wrong, Scene::auctionWithBids, house -> house.bid(wrong, 900));
        }
    }

    private static ClearingHouse secondAuction() {
        ClearingHouse house = Scene.auctionWithBids();
        Check.yes("close", house.closeAuction());
        Check.yes("default", house.declareDefault(1));
        return house;
    }

    private static void refusesMembersInDefault() {
        Check.sentence("status(member) is ACTIVE;");
        Check.refuses("the DEFAULTING member", Scene::auctionWithBids, house -> house.bid(0, 900));
        Check.refuses("a DEFAULTED member", BidTest::secondAuction, house -> house.bid(0, 900));
        ClearingHouse house = secondAuction();
        Check.due("a DEFAULTED member", false, house.bid(0, 900));
        Check.yes("an ACTIVE member", house.bid(2, 800));
        closes(house, 2, 800);
    }

    private static void refusesTooLowAmounts() {
        Check.sentence("-MAX_AMOUNT <= amount");
        for (int wrong : new int[] {-1000001, -2000000, Integer.MIN_VALUE + 1, Integer.MIN_VALUE}) {
            Check.refuses("amount " + wrong, Scene::auctionWithBids, house -> house.bid(1, wrong));
            Check.refuses("amount " + wrong, () -> Scene.auction(3, 0), house -> house.bid(1, wrong));
        }
    }

    private static void refusesTooHighAmounts() {
        Check.sentence("amount <= MAX_AMOUNT.");
        for (int wrong : new int[] {1000001, 2000000, Integer.MAX_VALUE}) {
            Check.refuses("amount " + wrong, Scene::auctionWithBids, house -> house.bid(1, wrong));
            Check.refuses("amount " + wrong + " in place of 30", Scene::auctionWithBids, house -> house.bid(2, wrong));
        }
    }

    private static void takesTheEdges() {
        Check.sentence("-MAX_AMOUNT <= amount <= MAX_AMOUNT.");
        ClearingHouse house = Scene.auction(3, 0);
        Check.yes("greatest", house.bid(2, 1000000));
        Check.yes("just below", house.bid(1, 999999));
        closes(house, 2, 1000000);
        Check.reads(house, "cash 0", 1000000 - 8000, "cash 2", -1000000);
        house = Scene.auction(3, 0);
        Check.yes("least", house.bid(1, -1000000));
        closes(house, 1, -1000000);
        Check.reads(house, "cash 0", 0, "cash 1", 1008000, "layer 0", 1008000);
        house = Scene.auction(3, 0);
        Check.yes("least", house.bid(1, -1000000));
        Check.yes("just above", house.bid(2, -999999));
        closes(house, 2, -999999);
    }

    private static void takesAmountsBelowZero() {
        Check.sentence("A negative amount means the bidder asks to be paid -amount.");
        ClearingHouse house = Scene.auction(3, 0);
        Check.yes("bid", house.bid(2, -1));
        closes(house, 2, -1);
        Check.reads(house, "cash 2", 1, "layer 0", 8001);
    }

    private static void replacesTheOwnBid() {
        Check.sentence("the member's bid := amount, replacing any earlier bid of that member.");
        ClearingHouse house = Scene.auctionWithBids();
        Check.yes("a lower one", house.bid(2, 19));
        closes(house, 3, 20);
        house = Scene.auctionWithBids();
        Check.yes("a higher one", house.bid(3, 31));
        closes(house, 3, 31);
        house = Scene.auctionWithBids();
        Check.yes("zero", house.bid(2, 0));
        Check.yes("zero", house.bid(3, 0));
        closes(house, 2, 0);
        house = Scene.auctionWithBids();
        Check.yes("down", house.bid(3, -1000000));
        Check.yes("up", house.bid(3, 1000000));
        Check.yes("and back", house.bid(3, 29));
        closes(house, 2, 30);
    }

    private static void takesZero() {
        Check.sentence("A bid of 0 is a bid.");
        ClearingHouse house = Scene.auction(3, 0, 0, 50, 0);
        Check.yes("zero alone", house.bid(2, 0));
        closes(house, 2, 0);
        Check.reads(house, "position 2 0", 100, "position 1 0", -100);
        house = Scene.auction(3, 0);
        Check.yes("below zero", house.bid(1, -1));
        Check.yes("zero", house.bid(2, 0));
        closes(house, 2, 0);
        house = Scene.auction(3, 0);
        Check.yes("zero", house.bid(1, 0));
        Check.yes("above zero", house.bid(2, 1));
        closes(house, 2, 1);
    }

    private static void changesNothingToBeSeen() {
        Check.sentence("No money, position, call or status changes, and other members' bids are unchanged.");
        ClearingHouse house = Scene.auctionWithBids();
        Check.does("high", house, it -> it.bid(1, 1000000));
        Check.does("low", house, it -> it.bid(2, -1000000));
        Check.does("zero", house, it -> it.bid(3, 0));
        closes(house, 1, 1000000);
    }

    private static void leavesOtherBids() {
        Check.sentence("other members' bids are unchanged.");
        ClearingHouse house = Scene.auctionWithBids();
        Check.yes("a low bid of another", house.bid(1, -7));
        closes(house, 2, 30);
        house = Scene.auctionWithBids();
        Check.yes("a low bid of the next", house.bid(3, -7));
        closes(house, 2, 30);
        house = Scene.auctionWithBids();
        Check.yes("the highest goes down", house.bid(2, -7));
        closes(house, 3, 20);
    }

    private static void asksForNoMoney() {
        Check.sentence("Tests, in order: phase is AUCTION; member valid; status(member) is ACTIVE;"
            + " -MAX_AMOUNT <= amount <= MAX_AMOUNT.");
        ClearingHouse house = Scene.auctionWithBids();
        Check.yes("a called member without cash", house.bid(1, 999999));
        closes(house, 1, 999999);
        Check.reads(house, "cash 1", -999999);
    }
}
