/** Promise 4: quote. */
public final class QuoteTest {
    private QuoteTest() { }

    public static void main(String[] args) {
        refusesWrongInstruments();
        refusesTooLowPrices();
        refusesTooHighPrices();
        takesTheEdges();
        goesOnInAnyPhase();
        leavesTheSettlementPrice();
        leavesBidsAlone();
        Check.finish();
    }

    private static ClearingHouse plain() {
        return Scene.called(4, 50, 1, 2, 3);
    }

    private static void refusesWrongInstruments() {
        Check.sentence("Tests, in order: instrument valid; 1 <= price <= MAX_PRICE.");
        Check.refuses("instrument 2 of 2", QuoteTest::plain, house -> house.quote(2, 50));
        Check.refuses("instrument 3 of 2", QuoteTest::plain, house -> house.quote(3, 50));
        Check.refuses("instrument 4 of 2", QuoteTest::plain, house -> house.quote(4, 50));
        for (int wrong : Check.WRONG_INDEXES) {
            Check.refuses("instrument " + wrong, QuoteTest::plain, house -> house.quote(wrong, 50));
        }
    }

    private static void refusesTooLowPrices() {
        Check.sentence("1 <= price");
        for (int wrong : new int[] {0, -1, -100, -100000, Integer.MIN_VALUE, Integer.MIN_VALUE + 1}) {
            Check.refuses("price " + wrong, QuoteTest::plain, house -> house.quote(0, wrong));
        }
    }

    private static void refusesTooHighPrices() {
        Check.sentence("price <= MAX_PRICE");
        for (int wrong : new int[] {100001, 200000, 1000000, Integer.MAX_VALUE}) {
            Check.refuses("price " + wrong, QuoteTest::plain, house -> house.quote(0, wrong));
        }
    }

    private static void takesTheEdges() {
        Check.sentence("1 <= price <= MAX_PRICE.");
        ClearingHouse house = plain();
        Check.does("least", house, it -> it.quote(0, 1), "price 0", 1);
        Check.does("next to the least", house, it -> it.quote(0, 2), "price 0", 2);
        Check.does("greatest", house, it -> it.quote(1, 100000), "price 1", 100000);
        Check.does("next to the greatest", house, it -> it.quote(1, 99999), "price 1", 99999);
        Check.does("the same again", house, it -> it.quote(1, 99999));
    }

    private static void goesOnInAnyPhase() {
        Check.sentence("`quote(instrument, price)` sets the current price of an instrument, in any phase.");
        ClearingHouse house = plain();
        Check.does("NORMAL", house, it -> it.quote(0, 33), "price 0", 33);
        Check.yes("default", house.declareDefault(0));
        Check.does("AUCTION", house, it -> it.quote(0, 34), "price 0", 34);
        Check.yes("close", house.closeAuction());
        Check.does("NORMAL again", house, it -> it.quote(0, 35), "price 0", 35);
    }

    private static void leavesTheSettlementPrice() {
        Check.sentence("S is unchanged.");
        ClearingHouse house = new ClearingHouse(2, 4, 0, 10);
        for (int i = 0; i < 4; i++) {
            int instrument = i;
            Check.does("quote", house, it -> it.quote(instrument, 7 + instrument), "price " + i, 7 + i);
        }
        Check.reads(house, "settlement 0", 100, "settlement 1", 100, "settlement 2", 100, "settlement 3", 100);
    }

    private static void leavesBidsAlone() {
        Check.sentence("No balance, position, call, status or bid changes.");
        ClearingHouse house = Scene.auctionWithBids();
        Check.does("quote", house, it -> it.quote(0, 34), "price 0", 34);
        Check.yes("close", house.closeAuction());
        Check.reads(house, "layer 5", 2, "layer 6", 30);
    }
}
