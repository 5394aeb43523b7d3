/** Promise 5: trade. */
public final class TradeTest {
    private TradeTest() { }

    public static void main(String[] args) {
        waitsForTheAuction();
        refusesWrongBuyers();
        refusesWrongSellers();
        refusesOneselfAsOther();
        refusesMembersInDefault();
        refusesWrongInstruments();
        refusesTooSmallQuantities();
        refusesTooLargeQuantities();
        takesTheEdgesOfTheQuantity();
        holdsTheBuyerToTheLimit();
        holdsTheSellerToTheLimit();
        countsTheLimitByMemberAndInstrument();
        turnsAFullPositionRound();
        triesTheLimitAfterTheTrade();
        paysTheGapToTheSettlementPrice();
        movesTwoMembersOnly();
        asksForNoMargin();
        leavesCalls();
        Check.finish();
    }

    private static ClearingHouse plain() {
        ClearingHouse house = Scene.called(4, 50, 1, 2, 3, 4);
        Check.yes("quote", house.quote(0, 25));
        return house;
    }

    private static void waitsForTheAuction() {
        Check.sentence("Tests, in order: phase is NORMAL; buyer valid; seller valid; buyer != seller; both are ACTIVE;"
            + " instrument valid; 1 <= quantity <= MAX_QTY; |pos(buyer,i) + quantity| <= POSITION_LIMIT;"
            + " |pos(seller,i) - quantity| <= POSITION_LIMIT.");
        Check.refuses("survivors", Scene::auctionWithBids, house -> house.trade(1, 2, 0, 1));
        Check.refuses("survivors, another instrument", Scene::auctionWithBids, house -> house.trade(2, 3, 1, 1));
        ClearingHouse house = Scene.auctionWithBids();
        Check.yes("close", house.closeAuction());
        Check.yes("survivors after it", house.trade(1, 2, 0, 1));
    }

    private static void refusesWrongBuyers() {
        Check.sentence("buyer valid;");
        Check.refuses("buyer 4 of 4", TradeTest::plain, house -> house.trade(4, 0, 0, 1));
        for (int wrong : Check.WRONG_INDEXES) {
            Check.refuses("buyer " + wrong, TradeTest::plain, house -> house.trade(wrong, 0, 0, 1));
        }
    }

    private static void refusesWrongSellers() {
        Check.sentence("seller valid;");
        Check.refuses("seller 4 of 4", TradeTest::plain, house -> house.trade(0, 4, 0, 1));
        for (int wrong : Check.WRONG_INDEXES) {
            Check.refuses("seller " + wrong, TradeTest::plain, house -> house.trade(0, wrong, 0, 1));
            Check.refuses("both " + wrong, TradeTest::plain, house -> house.trade(wrong, wrong, 0, 1));
        }
    }

    private static void refusesOneselfAsOther() {
        Check.sentence("buyer != seller;");
        for (int m = 0; m < 4; m++) {
            int member = m;
            Check.refuses("member " + m, TradeTest::plain, house -> house.trade(member, member, 0, 1));
        }
    }

    private static void refusesMembersInDefault() {
        Check.sentence("both are ACTIVE;");
        Check.refuses("a DEFAULTED buyer", () -> Scene.closed(3, 0), house -> house.trade(0, 1, 0, 1));
        Check.refuses("a DEFAULTED seller", () -> Scene.closed(3, 0), house -> house.trade(1, 0, 0, 1));
        Check.refuses("a DEFAULTING buyer", () -> Scene.auction(3, 0), house -> house.trade(0, 1, 0, 1));
        Check.refuses("a DEFAULTING seller", () -> Scene.auction(3, 0), house -> house.trade(1, 0, 0, 1));
        Check.yes("the others", Scene.closed(3, 0).trade(1, 2, 0, 1));
    }

    private static void refusesWrongInstruments() {
        Check.sentence("instrument valid;");
        Check.refuses("instrument 2 of 2", TradeTest::plain, house -> house.trade(0, 1, 2, 1));
        Check.refuses("instrument 3 of 2", TradeTest::plain, house -> house.trade(0, 1, 3, 1));
        Check.refuses("instrument 4 of 2", TradeTest::plain, house -> house.trade(0, 1, 4, 1));
        for (int wrong : Check.WRONG_INDEXES) {
            Check.refuses("instrument " + wrong, TradeTest::plain, house -> house.trade(0, 1, wrong, 1));
        }
    }

    private static void refusesTooSmallQuantities() {
        Check.sentence("1 <= quantity");
        for (int wrong : new int[] {0, -1, -1000, Integer.MIN_VALUE, Integer.MIN_VALUE + 1}) {
            Check.refuses("quantity " + wrong, TradeTest::plain, house -> house.trade(0, 1, 0, wrong));
        }
    }

    /** A quantity near the greatest int makes the new position wrap around, which must not let it in. */
    private static void refusesTooLargeQuantities() {
        Check.sentence("quantity <= MAX_QTY;");
        for (int wrong : new int[] {1001, 2000, 10000, Integer.MAX_VALUE, Integer.MAX_VALUE - 100}) {
            Check.refuses("quantity " + wrong, TradeTest::plain, house -> house.trade(0, 1, 0, wrong));
            Check.refuses("quantity " + wrong + " back", TradeTest::plain, house -> house.trade(1, 0, 0, wrong));
        }
    }

    private static void takesTheEdgesOfTheQuantity() {
        Check.sentence("1 <= quantity <= MAX_QTY;");
        ClearingHouse house = new ClearingHouse(3, 2, 40, 10);
        Check.does("least", house, it -> it.trade(0, 1, 0, 1), "position 0 0", 1, "position 1 0", -1,
            "margin 0", 20, "margin 1", 20);
        Check.does("greatest", house, it -> it.trade(2, 1, 1, 1000), "position 2 1", 1000, "position 1 1", -1000,
            "margin 2", 20000, "margin 1", 20020);
    }

    /** Member 0 is long 9999 against member 1, in instrument 0. */
    private static ClearingHouse nearlyFull() {
        ClearingHouse house = new ClearingHouse(4, 2, 0, 10);
        Scene.build(house, 0, 1, 0, 9999);
        return house;
    }

    /** Member 0 is long to the limit, member 1 short to the limit. */
    private static ClearingHouse full() {
        ClearingHouse house = nearlyFull();
        Check.yes("trade", house.trade(0, 1, 0, 1));
        return house;
    }

    private static void holdsTheBuyerToTheLimit() {
        Check.sentence("|pos(buyer,i) + quantity| <= POSITION_LIMIT;");
        Check.refuses("one above", TradeTest::nearlyFull, house -> house.trade(0, 2, 0, 2));
        Check.refuses("far above", TradeTest::nearlyFull, house -> house.trade(0, 2, 0, 1000));
        ClearingHouse house = nearlyFull();
        Check.does("to the limit", house, it -> it.trade(0, 2, 0, 1), "position 0 0", 10000, "position 2 0", -1,
            "margin 0", 200000, "margin 2", 20);
        Check.refuses("one more", TradeTest::full, it -> it.trade(0, 2, 0, 1));
        Check.yes("the seller alone may go on", nearlyFull().trade(2, 0, 0, 1000));
    }

    private static void holdsTheSellerToTheLimit() {
        Check.sentence("|pos(seller,i) - quantity| <= POSITION_LIMIT.");
        Check.refuses("one above", TradeTest::nearlyFull, house -> house.trade(2, 1, 0, 2));
        Check.refuses("far above", TradeTest::nearlyFull, house -> house.trade(2, 1, 0, 1000));
        ClearingHouse house = nearlyFull();
        Check.does("to the limit", house, it -> it.trade(2, 1, 0, 1), "position 1 0", -10000, "position 2 0", 1,
            "margin 1", 200000, "margin 2", 20);
        Check.refuses("one more", TradeTest::full, it -> it.trade(2, 1, 0, 1));
        Check.yes("the buyer alone may go on", nearlyFull().trade(1, 2, 0, 1000));
    }

    private static void countsTheLimitByMemberAndInstrument() {
        Check.sentence("|pos(buyer,i) + quantity| <= POSITION_LIMIT; |pos(seller,i) - quantity| <= POSITION_LIMIT.");
        ClearingHouse house = full();
        Check.yes("another instrument", house.trade(0, 1, 1, 1000));
        Check.yes("other members", house.trade(2, 3, 0, 1000));
        Check.yes("back", house.trade(1, 0, 0, 1));
        Check.yes("and again", house.trade(0, 1, 0, 1));
        Check.reads(house, "position 0 0", 10000, "position 1 0", -10000, "position 0 1", 1000);
    }

    private static void turnsAFullPositionRound() {
        Check.sentence("|pos(buyer,i) + quantity| <= POSITION_LIMIT; |pos(seller,i) - quantity| <= POSITION_LIMIT.");
        ClearingHouse house = full();
        Scene.build(house, 1, 0, 0, 20000);
        Check.reads(house, "position 0 0", -10000, "position 1 0", 10000);
        Check.due("one more", false, house.trade(1, 0, 0, 1));
    }

    /** A position above the limit may be brought within it, but not merely nearer to it. */
    private static void triesTheLimitAfterTheTrade() {
        Check.sentence("|pos(buyer,i) + quantity| <= POSITION_LIMIT; |pos(seller,i) - quantity| <= POSITION_LIMIT.");
        for (int sign = -1; sign <= 1; sign += 2) {
            int side = sign;
            Check.refuses("further", () -> aboveTheLimit(side, 3000), house -> lean(house, side, 1));
            Check.refuses("nearer, but not within", () -> aboveTheLimit(side, 3000), house -> lean(house, -side, 1000));
            Check.refuses("to one above", () -> aboveTheLimit(side, 1000), house -> lean(house, -side, 999));
            ClearingHouse house = aboveTheLimit(side, 1000);
            Check.yes("to the limit", lean(house, -side, 1000));
            Check.reads(house, "position 1 0", side * 10000);
        }
    }

    /** Member 1 trades with member 3, who holds nothing: it buys if the side is above 0. */
    private static boolean lean(ClearingHouse house, int side, int quantity) {
        return side > 0 ? house.trade(1, 3, 0, quantity) : house.trade(3, 1, 0, quantity);
    }

    /** Member 1 holds the limit and wins more from member 0, on the side of sign. */
    private static ClearingHouse aboveTheLimit(int sign, int won) {
        ClearingHouse house = new ClearingHouse(5, 1, 0, 10);
        Scene.build(house, 1, 2, 0, sign * 10000);
        Scene.build(house, 0, 4, 0, sign * won);
        Check.number("calls", 4, house.callMargins());
        Check.yes("default", house.declareDefault(0));
        Check.yes("bid", house.bid(1, 0));
        Check.yes("close", house.closeAuction());
        Check.reads(house, "position 1 0", sign * (10000 + won));
        return house;
    }

    private static void paysTheGapToTheSettlementPrice() {
        Check.sentence("d may be negative, zero or positive.");
        ClearingHouse house = new ClearingHouse(3, 2, 40, 10);
        Check.yes("zero", house.trade(0, 1, 1, 7));
        Check.reads(house, "cash 0", 0, "cash 1", 0);
        Check.yes("quote", house.quote(1, 130));
        Check.yes("negative", house.trade(0, 1, 1, 7));
        Check.reads(house, "cash 0", -210, "cash 1", 210);
        Check.yes("quote", house.quote(1, 1));
        Check.yes("positive", house.trade(0, 2, 1, 1000));
        Check.reads(house, "cash 0", -210 + 99000, "cash 2", -99000);
        Check.yes("quote", house.quote(0, 100000));
        Check.yes("the least of all", house.trade(1, 2, 0, 1000));
        Check.reads(house, "cash 1", 210 - 99900000, "cash 2", -99000 + 99900000);
        Check.yes("settle", house.settle());
        Check.yes("quote", house.quote(0, 1));
        long buyer = house.getBalance(0, ClearingHouse.CASH);
        long seller = house.getBalance(1, ClearingHouse.CASH);
        Check.yes("the greatest of all", house.trade(0, 1, 0, 1000));
        Check.reads(house, "cash 0", buyer + 99999000, "cash 1", seller - 99999000);
    }

    private static void movesTwoMembersOnly() {
        Check.sentence("FUND balances, prices, the house capital, other members and other instruments are unchanged.");
        ClearingHouse house = plain();
        Check.does("trade", house, it -> it.trade(2, 3, 0, 10), "position 2 0", 10, "position 3 0", -10,
            "cash 2", -50, "cash 3", 50, "margin 2", 40, "margin 3", 40);
        Check.does("back", house, it -> it.trade(3, 2, 0, 10), "position 2 0", 0, "position 3 0", 0,
            "cash 2", 0, "cash 3", 0, "margin 2", 0, "margin 3", 0);
    }

    /** No test of promise 5 looks at cash, margin or call. */
    private static void asksForNoMargin() {
        Check.sentence("Tests, in order: phase is NORMAL; buyer valid; seller valid; buyer != seller; both are ACTIVE;"
            + " instrument valid; 1 <= quantity <= MAX_QTY; |pos(buyer,i) + quantity| <= POSITION_LIMIT;"
            + " |pos(seller,i) - quantity| <= POSITION_LIMIT.");
        ClearingHouse house = Scene.called(3, 0);
        Check.yes("a called member with cash below 0 buys", house.trade(0, 2, 0, 1000));
        Check.yes("and sells", house.trade(2, 0, 1, 1000));
    }

    private static void leavesCalls() {
        Check.sentence("Calls are unchanged.");
        ClearingHouse house = Scene.called(3, 0);
        Check.yes("quote", house.quote(0, 1));
        Check.yes("a called member gains", house.trade(0, 2, 0, 1000));
        Check.reads(house, "cash 0", 11000, "call 0", 8400, "call 2", 0);
        Check.yes("a called member gives all away", house.trade(1, 0, 0, 1000));
        Check.reads(house, "call 0", 8400, "call 1", 0);
    }
}
