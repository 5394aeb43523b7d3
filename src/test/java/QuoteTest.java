/** Promise 4: quote. */
public final class QuoteTest {
    private QuoteTest() { }

    public static void main(String[] args) {
        setsTheCurrentPriceAlone();
        refusesWrongInputs();
        goesOnInAnAuction();
        Check.finish();
    }

    private static void setsTheCurrentPriceAlone() {
        Check.title("quote");
        ClearingHouse house = Scene.called(3, 50, 1, 2, 3);
        String before = State.of(house);
        Check.yes("least", house.quote(0, 1));
        Check.number("current", 1, house.getPrice(0, ClearingHouse.CURRENT));
        Check.number("settlement", 20, house.getPrice(0, ClearingHouse.SETTLEMENT));
        Check.number("the other instrument", 100, house.getPrice(1, ClearingHouse.CURRENT));
        Check.yes("greatest", house.quote(1, 100000));
        Check.number("current", 100000, house.getPrice(1, ClearingHouse.CURRENT));
        Check.number("settlement", 100, house.getPrice(1, ClearingHouse.SETTLEMENT));
        Check.yes("back", house.quote(0, 20));
        Check.yes("back", house.quote(1, 100));
        Check.due("all else", before, State.of(house));
    }

    private static void refusesWrongInputs() {
        Check.title("wrong quotes");
        ClearingHouse house = new ClearingHouse(2, 2, 0, 10);
        String before = State.of(house);
        Check.refused("instrument 2 of 2", house.quote(2, 50), before, house);
        Check.refused("instrument 3 of 2", house.quote(3, 50), before, house);
        for (int wrong : Check.WRONG_INDEXES) {
            Check.refused("instrument " + wrong, house.quote(wrong, 50), before, house);
        }
        for (int wrong : new int[] {0, -1, 100001, Integer.MAX_VALUE, Integer.MIN_VALUE}) {
            Check.refused("price " + wrong, house.quote(0, wrong), before, house);
        }
    }

    private static void goesOnInAnAuction() {
        Check.title("quote in an auction");
        ClearingHouse house = Scene.auction(3, 0);
        Check.yes("quote", house.quote(0, 33));
        Check.number("current", 33, house.getPrice(0, ClearingHouse.CURRENT));
        Check.number("settlement", 20, house.getPrice(0, ClearingHouse.SETTLEMENT));
        Check.number("status", ClearingHouse.DEFAULTING, house.getStatus(0));
        Check.yes("bid", house.bid(2, 5));
        Check.yes("quote", house.quote(0, 34));
        Check.yes("close", house.closeAuction());
        Check.number("the bid stood", 2, house.getWaterfall(ClearingHouse.WF_WINNER));
    }
}
