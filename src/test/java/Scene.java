import java.util.List;
import java.util.function.Predicate;

/** Houses brought to a moment that many tests begin with. */
final class Scene {
    private Scene() { }

    /** A house of 2 instruments and risk 10 with these FUND balances and nothing else in it. */
    static ClearingHouse funded(int members, int houseCapital, int... funds) {
        ClearingHouse house = new ClearingHouse(members, 2, houseCapital, 10);
        for (int m = 0; m < funds.length; m++) {
            if (funds[m] > 0) {
                Check.yes("the scene's deposit", house.deposit(m, ClearingHouse.FUND, funds[m]));
            }
        }
        return house;
    }

    /**
     * Member 0 is long 100 of instrument 0 against member 1, and the price has gone from 100 to 20: member 0 has
     * cash -8000, margin 400 and call 8400; member 1 has cash 8000, margin 400 and no call.
     */
    static ClearingHouse called(int members, int houseCapital, int... funds) {
        ClearingHouse house = funded(members, houseCapital, funds);
        Check.yes("the scene's trade", house.trade(0, 1, 0, 100));
        Check.yes("the scene's quote", house.quote(0, 20));
        Check.yes("the scene's settle", house.settle());
        Check.number("the scene's callMargins", 1, house.callMargins());
        return house;
    }

    /** The same, and member 0 is DEFAULTING. */
    static ClearingHouse auction(int members, int houseCapital, int... funds) {
        ClearingHouse house = called(members, houseCapital, funds);
        Check.yes("the scene's declareDefault", house.declareDefault(0));
        return house;
    }

    /** The same, and the auction is closed without a bid: member 0 is DEFAULTED. */
    static ClearingHouse closed(int members, int houseCapital, int... funds) {
        ClearingHouse house = auction(members, houseCapital, funds);
        Check.yes("the scene's closeAuction", house.closeAuction());
        return house;
    }

    /** Member 0 is long 5 of instrument 0 against member 1; both have cash 0, margin 100 and call 100. */
    static ClearingHouse bothCalled(int members, int houseCapital, int... funds) {
        ClearingHouse house = funded(members, houseCapital, funds);
        Check.yes("the scene's trade", house.trade(0, 1, 0, 5));
        Check.number("the scene's callMargins", 2, house.callMargins());
        return house;
    }

    /** An auction of member 0 with member 1 called too, and bids of members 2 (30) and 3 (20). */
    static ClearingHouse auctionWithBids() {
        ClearingHouse house = bothCalled(4, 50, 1, 2, 3, 4);
        Check.yes("the scene's declareDefault", house.declareDefault(0));
        Check.yes("the scene's bid", house.bid(2, 30));
        Check.yes("the scene's bid", house.bid(3, 20));
        return house;
    }

    /** Any member may fail: it is long 5 of instrument 0 against the next one, and both are called for 100. */
    static ClearingHouse auctionOf(int defaulter, int members, int houseCapital, int... funds) {
        ClearingHouse house = funded(members, houseCapital, funds);
        Check.yes("the scene's trade", house.trade(defaulter, (defaulter + 1) % members, 0, 5));
        Check.number("the scene's callMargins", 2, house.callMargins());
        Check.yes("the scene's declareDefault", house.declareDefault(defaulter));
        return house;
    }

    /** Builds a position of any size: quantity > 0 is bought by the member from the other, below 0 sold to it. */
    static void build(ClearingHouse house, int member, int other, int instrument, int quantity) {
        int buyer = quantity > 0 ? member : other;
        int seller = quantity > 0 ? other : member;
        for (int left = Math.abs(quantity); left > 0; left -= 1000) {
            Check.yes("the scene's trade", house.trade(buyer, seller, instrument, Math.min(left, 1000)));
        }
    }

    /** Deposits of any size. */
    static void pay(ClearingHouse house, int member, int account, long amount) {
        for (long left = amount; left > 0; left -= 1000000) {
            Check.yes("the scene's deposit", house.deposit(member, account, (int) Math.min(left, 1000000)));
        }
    }

    /** Calls that bring to light what cannot be read: who has bid, and which phase it is. */
    static List<Predicate<ClearingHouse>> future() {
        return List.of(house -> house.closeAuction(), house -> house.quote(0, 3), house -> house.settle(),
            house -> house.callMargins() > 0, house -> house.declareDefault(1), house -> house.declareDefault(2),
            house -> house.bid(0, 1), house -> house.closeAuction(), house -> house.closeAuction());
    }
}
