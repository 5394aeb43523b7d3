import java.util.function.IntToLongFunction;

/** Promises 11 to 14 and 16: what is read, for wrong indexes, in every status and phase. (15: MarginTest; 17: AuctionTest.) */
public final class ReadingTest {
    private ReadingTest() { }

    public static void main(String[] args) {
        readsBalances();
        readsTheHouse();
        readsPositions();
        readsPrices();
        readsStatuses();
        readingChangesNothing();
        Check.finish();
    }

    private static void wrong(String what, int least, long due, IntToLongFunction reading) {
        for (int index = least; index < least + 20; index++) {
            Check.number(what + " " + index, due, reading.applyAsLong(index));
        }
        for (int index : Check.WRONG_INDEXES) {
            Check.number(what + " " + index, due, reading.applyAsLong(index));
        }
    }

    private static void readsBalances() {
        Check.title("getBalance");
        ClearingHouse house = Scene.called(3, 0, 3, 4, 5);
        wrong("cash of member", 3, 0, m -> house.getBalance(m, ClearingHouse.CASH));
        wrong("fund of member", 3, 0, m -> house.getBalance(m, ClearingHouse.FUND));
        wrong("account", 2, 0, account -> house.getBalance(1, account));
        Check.number("cash", 8000, house.getBalance(1, ClearingHouse.CASH));
        Check.number("fund", 4, house.getBalance(1, ClearingHouse.FUND));
        Check.yes("default", house.declareDefault(0));
        Check.number("cash while DEFAULTING", -8000, house.getBalance(0, ClearingHouse.CASH));
        Check.number("fund while DEFAULTING", 3, house.getBalance(0, ClearingHouse.FUND));
        Check.yes("bid", house.bid(1, 8001));
        Check.yes("close", house.closeAuction());
        Check.number("cash when DEFAULTED", 1, house.getBalance(0, ClearingHouse.CASH));
        Check.number("fund when DEFAULTED", 3, house.getBalance(0, ClearingHouse.FUND));
    }

    private static void readsTheHouse() {
        Check.title("getHouse");
        ClearingHouse house = Scene.auction(3, 321);
        Check.number("in an auction", 321, house.getHouse());
        Check.yes("close", house.closeAuction());
        Check.number("below 0", -7679, house.getHouse());
    }

    private static void readsPositions() {
        Check.title("getPosition");
        ClearingHouse house = new ClearingHouse(3, 2, 0, 10);
        for (int i = 0; i < 2; i++) {
            Check.yes("trade", house.trade(2, 1, i, 8 + i));
            Check.yes("trade", house.trade(0, 1, i, 4 + i));
        }
        int[][] due = {{4, 5}, {-12, -14}, {8, 9}};
        for (int m = 0; m < 3; m++) {
            int member = m;
            for (int i = 0; i < 2; i++) {
                int instrument = i;
                Check.number("position " + m + " " + i, due[m][i], house.getPosition(m, i));
                wrong("position in " + i + " of member", 3, 0, index -> house.getPosition(index, instrument));
            }
            wrong("position of " + m + " in instrument", 2, 0, index -> house.getPosition(member, index));
        }
    }

    private static void readsPrices() {
        Check.title("getPrice");
        ClearingHouse house = new ClearingHouse(2, 2, 0, 10);
        Check.yes("quote", house.quote(1, 44));
        Check.number("current", 44, house.getPrice(1, ClearingHouse.CURRENT));
        Check.number("settlement", 100, house.getPrice(1, ClearingHouse.SETTLEMENT));
        wrong("current price", 2, 0, i -> house.getPrice(i, ClearingHouse.CURRENT));
        wrong("settlement price", 2, 0, i -> house.getPrice(i, ClearingHouse.SETTLEMENT));
        wrong("selector", 2, 0, which -> house.getPrice(1, which));
    }

    private static void readsStatuses() {
        Check.title("getStatus");
        ClearingHouse house = Scene.called(3, 0);
        Check.number("ACTIVE", ClearingHouse.ACTIVE, house.getStatus(0));
        Check.yes("default", house.declareDefault(0));
        Check.number("DEFAULTING", ClearingHouse.DEFAULTING, house.getStatus(0));
        Check.yes("close", house.closeAuction());
        Check.number("DEFAULTED", ClearingHouse.DEFAULTED, house.getStatus(0));
        Check.number("a survivor", ClearingHouse.ACTIVE, house.getStatus(1));
        wrong("member", 3, -1, house::getStatus);
    }

    private static void readingChangesNothing() {
        Check.title("reading twice");
        for (ClearingHouse house : new ClearingHouse[] {Scene.called(3, 9, 8, 7), Scene.auction(3, 9, 8, 7),
            Scene.closed(3, 9, 8, 7)}) {
            Check.due("the second reading", State.of(house), State.of(house));
        }
    }
}
