import java.util.function.IntToLongFunction;

/** Promises 11 to 14, 16 and 17: what is read, for wrong indexes, in every status and phase. (15: MarginTest.) */
public final class ReadingTest {
    private static final int CASH = ClearingHouse.CASH;
    private static final int FUND = ClearingHouse.FUND;

    private ReadingTest() { }

    public static void main(String[] args) {
        readsBalancesInAnyStatus();
        readsBalancesOfNobody();
        readsTheHouseBelowZero();
        readsPositions();
        readsPositionsOfNobody();
        readsPrices();
        readsPricesOfNothing();
        readsStatuses();
        readsStatusesOfNobody();
        readsTheRecordBeforeAnyClosing();
        readsTheRecordOfTheLastClosing();
        readsNoOtherLayer();
        readingChangesNothing();
        Check.finish();
    }

    private static void wrong(String what, int least, long due, IntToLongFunction reading) {
        for (int index = least; index < least + 70; index++) {
            Check.number(what + " " + index, due, reading.applyAsLong(index));
        }
        for (int index : Check.WRONG_INDEXES) {
            Check.number(what + " " + index, due, reading.applyAsLong(index));
        }
    }

    private static void readsBalancesInAnyStatus() {
        Check.sentence("`getBalance(member, account)` answers the CASH or FUND balance of a member,"
            + " for any status and phase.");
        ClearingHouse house = Scene.called(3, 0, 3, 4, 5);
        Check.number("cash while ACTIVE", -8000, house.getBalance(0, CASH));
        Check.number("fund while ACTIVE", 3, house.getBalance(0, FUND));
        Check.yes("default", house.declareDefault(0));
        Check.number("cash while DEFAULTING", -8000, house.getBalance(0, CASH));
        Check.number("fund while DEFAULTING", 3, house.getBalance(0, FUND));
        Check.number("cash of a survivor", 8000, house.getBalance(1, CASH));
        Check.number("fund of a survivor", 4, house.getBalance(1, FUND));
        Check.yes("bid", house.bid(1, 8001));
        Check.yes("close", house.closeAuction());
        Check.number("cash when DEFAULTED", 1, house.getBalance(0, CASH));
        Check.number("fund when DEFAULTED", 3, house.getBalance(0, FUND));
    }

    private static void readsBalancesOfNobody() {
        Check.sentence("Answers 0 if the member or account is invalid.");
        ClearingHouse house = Scene.called(3, 9, 3, 4, 5);
        wrong("cash of member", 3, 0, m -> house.getBalance(m, CASH));
        wrong("fund of member", 3, 0, m -> house.getBalance(m, FUND));
        wrong("account", 2, 0, account -> house.getBalance(1, account));
    }

    private static void readsTheHouseBelowZero() {
        Check.sentence("`getHouse()` answers the house capital, which may be negative.");
        ClearingHouse house = Scene.auction(3, 321);
        Check.number("in an auction", 321, house.getHouse());
        Check.yes("close", house.closeAuction());
        Check.number("below 0", 321 - 8000, house.getHouse());
        house = Scene.closed(3, 8000);
        Check.number("just 0", 0, house.getHouse());
        house = Scene.closed(3, 7999);
        Check.number("just below 0", -1, house.getHouse());
    }

    private static ClearingHouse held() {
        ClearingHouse house = new ClearingHouse(3, 2, 0, 10);
        for (int i = 0; i < 2; i++) {
            Check.yes("trade", house.trade(2, 1, i, 8 + i));
            Check.yes("trade", house.trade(0, 1, i, 4 + i));
        }
        return house;
    }

    private static void readsPositions() {
        Check.sentence("`getPosition(member, instrument)` answers pos(member, instrument).");
        ClearingHouse house = held();
        int[][] due = {{4, 5}, {-12, -14}, {8, 9}};
        for (int m = 0; m < 3; m++) {
            for (int i = 0; i < 2; i++) {
                Check.number("position " + m + " " + i, due[m][i], house.getPosition(m, i));
            }
        }
    }

    private static void readsPositionsOfNobody() {
        Check.sentence("Answers 0 if either index is invalid.");
        ClearingHouse house = held();
        for (int n = 0; n < 3; n++) {
            int right = n;
            wrong("position in " + right + " of member", 3, 0, index -> house.getPosition(index, right));
            wrong("position of " + right + " in instrument", 2, 0, index -> house.getPosition(right, index));
            wrong("both", 3, 0, index -> house.getPosition(index, index));
        }
    }

    private static void readsPrices() {
        Check.sentence("which = CURRENT answers P(instrument); which = SETTLEMENT answers S(instrument).");
        ClearingHouse house = new ClearingHouse(2, 4, 0, 10);
        for (int i = 0; i < 4; i++) {
            Check.yes("quote", house.quote(i, 40 + i));
            Check.number("current", 40 + i, house.getPrice(i, ClearingHouse.CURRENT));
            Check.number("settlement", 100, house.getPrice(i, ClearingHouse.SETTLEMENT));
        }
    }

    private static void readsPricesOfNothing() {
        Check.sentence("Answers 0 if the instrument or selector is invalid.");
        for (int instruments = 1; instruments <= 4; instruments++) {
            ClearingHouse house = new ClearingHouse(2, instruments, 0, 10);
            wrong("current price", instruments, 0, i -> house.getPrice(i, ClearingHouse.CURRENT));
            wrong("settlement price", instruments, 0, i -> house.getPrice(i, ClearingHouse.SETTLEMENT));
            wrong("selector", 2, 0, which -> house.getPrice(0, which));
        }
    }

    private static void readsStatuses() {
        Check.sentence("`getStatus(member)` answers the status of a member (ACTIVE, DEFAULTING or DEFAULTED).");
        ClearingHouse house = Scene.called(3, 0);
        Check.number("ACTIVE", ClearingHouse.ACTIVE, house.getStatus(0));
        Check.yes("default", house.declareDefault(0));
        Check.number("DEFAULTING", ClearingHouse.DEFAULTING, house.getStatus(0));
        Check.number("a survivor", ClearingHouse.ACTIVE, house.getStatus(1));
        Check.yes("close", house.closeAuction());
        Check.number("DEFAULTED", ClearingHouse.DEFAULTED, house.getStatus(0));
        Check.number("a survivor", ClearingHouse.ACTIVE, house.getStatus(1));
    }

    private static void readsStatusesOfNobody() {
        Check.sentence("Answers -1 if the member is invalid.");
        for (int members = 2; members <= 8; members++) {
            ClearingHouse house = new ClearingHouse(members, 1, 0, 10);
            wrong("member", members, -1, house::getStatus);
        }
    }

    private static void readsTheRecordBeforeAnyClosing() {
        Check.sentence("before any auction has closed, every layer is 0 except WF_WINNER, which is NO_WINNER.");
        ClearingHouse house = Scene.auction(4, 50, 1, 2, 3, 4);
        Check.yes("bid", house.bid(2, 70));
        for (int layer = 0; layer < 7; layer++) {
            Check.number("in the first auction, layer " + layer, layer == 5 ? -1 : 0, house.getWaterfall(layer));
        }
    }

    /** The first closing fills every layer; the second has other numbers in each, some of them 0. */
    private static void readsTheRecordOfTheLastClosing() {
        Check.sentence("`getWaterfall(layer)` answers layer 0..6 of the waterfall record of the last closed auction;");
        ClearingHouse house = Scene.called(4, 50, 1, 2, 3, 4);
        Check.yes("trade", house.trade(3, 1, 1, 1));
        Check.number("calls", 2, house.callMargins());
        Check.yes("default", house.declareDefault(0));
        Check.yes("bid", house.bid(2, -70));
        Check.yes("close", house.closeAuction());
        Check.reads(house, "layer 0", 8070, "layer 1", 1, "layer 2", 50, "layer 3", 9, "layer 4", 8010,
            "layer 5", 2, "layer 6", -70);
        Check.does("the next auction does not touch it", house, it -> it.declareDefault(3), "status 3", 1, "call 3", 0);
        Check.does("nor does a bid", house, it -> it.bid(1, 5));
        Check.yes("close", house.closeAuction());
        Check.reads(house, "layer 0", 0, "layer 1", 0, "layer 2", 0, "layer 3", 0, "layer 4", 0,
            "layer 5", 1, "layer 6", 5);
    }

    private static void readsNoOtherLayer() {
        Check.sentence("Answers 0 for any other layer.");
        ClearingHouse house = Scene.closed(4, 1000, 2000, 300, 400);
        Check.reads(house, "layer 0", 8000, "layer 1", 2000, "layer 2", 1000, "layer 3", 700, "layer 4", 4300,
            "layer 5", ClearingHouse.FORCED_ALLOCATION, "layer 6", 0);
        wrong("layer", 7, 0, house::getWaterfall);
    }

    private static void readingChangesNothing() {
        Check.sentence("Changes nothing.");
        Check.refuses("reading before a default", () -> Scene.called(4, 9, 8, 7), ReadingTest::readsTwiceTheSame);
        Check.refuses("reading in an auction", Scene::auctionWithBids, ReadingTest::readsTwiceTheSame);
        Check.refuses("reading after a closing", () -> Scene.closed(4, 9, 8, 7), ReadingTest::readsTwiceTheSame);
    }

    /** It answers false, as the refused calls do, if all is well. */
    private static boolean readsTwiceTheSame(ClearingHouse house) {
        return !State.of(house).equals(State.of(house));
    }
}
