/** Houses brought to a moment that many tests begin with. */
final class Scene {
    private Scene() { }

    /** Member 0 is long 100 of instrument 0 against member 1, the price has gone from 100 to 20, calls are out: its cash is -8000. */
    static ClearingHouse called(int members, int houseCapital, int... funds) {
        ClearingHouse house = new ClearingHouse(members, 2, houseCapital, 10);
        for (int m = 0; m < funds.length; m++) {
            if (funds[m] > 0) {
                Check.yes("the scene's deposit", house.deposit(m, ClearingHouse.FUND, funds[m]));
            }
        }
        Check.yes("the scene's trade", house.trade(0, 1, 0, 100));
        Check.yes("the scene's quote", house.quote(0, 20));
        Check.yes("the scene's settle", house.settle());
        Check.number("the scene's callMargins", 1, house.callMargins());
        return house;
    }

    /** The same, and member 0 is DEFAULTING. */
    static ClearingHouse auction(int members, int houseCapital, int... funds) {
        ClearingHouse house = called(members, houseCapital, funds);
        Check.yes("the scene's declareDefault", house.declareDefault(0));
        return house;
    }

    /** The same, and the auction is closed without a bid: member 0 is DEFAULTED. */
    static ClearingHouse closed(int members, int houseCapital, int... funds) {
        ClearingHouse house = auction(members, houseCapital, funds);
        Check.yes("the scene's closeAuction", house.closeAuction());
        return house;
    }
}
