/** Promise 6: settle. */
public final class SettleTest {
    private static final int CASH = ClearingHouse.CASH;

    private SettleTest() { }

    public static void main(String[] args) {
        marksPositionsToThePrice();
        settlesEveryInstrument();
        reachesPastInt();
        leavesAllElse();
        waitsForTheAuction();
        settlesMembersOfAnyStatus();
        Check.finish();
    }

    private static void marksPositionsToThePrice() {
        Check.title("settle");
        ClearingHouse house = new ClearingHouse(3, 2, 40, 10);
        Check.yes("trade", house.trade(0, 1, 0, 7));
        Check.yes("quote", house.quote(0, 111));
        Check.number("a quote moves no cash", 0, house.getBalance(0, CASH));
        Check.yes("settle", house.settle());
        Check.number("long", 77, house.getBalance(0, CASH));
        Check.number("short", -77, house.getBalance(1, CASH));
        Check.number("flat", 0, house.getBalance(2, CASH));
        Check.number("settlement price", 111, house.getPrice(0, ClearingHouse.SETTLEMENT));
        Check.number("current price", 111, house.getPrice(0, ClearingHouse.CURRENT));
        String before = State.of(house);
        Check.yes("again", house.settle());
        Check.due("a second settle moves nothing", before, State.of(house));
    }

    private static void settlesEveryInstrument() {
        Check.title("settle of four instruments");
        ClearingHouse house = new ClearingHouse(3, 4, 40, 10);
        int[] prices = {90, 101, 250, 1};
        int[] quantities = {3, 5, 11, 2};
        long gain = 0;
        for (int i = 0; i < 4; i++) {
            Check.yes("trade", house.trade(1, 2, i, quantities[i]));
            Check.yes("quote", house.quote(i, prices[i]));
            gain += (long) quantities[i] * (prices[i] - 100);
        }
        Check.yes("settle", house.settle());
        Check.number("long", gain, house.getBalance(1, CASH));
        Check.number("short", -gain, house.getBalance(2, CASH));
        for (int i = 0; i < 4; i++) {
            Check.number("settlement price " + i, prices[i], house.getPrice(i, ClearingHouse.SETTLEMENT));
        }
    }

    private static void reachesPastInt() {
        Check.title("a settle above the int range");
        ClearingHouse house = new ClearingHouse(2, 4, 0, 10);
        for (int i = 0; i < 4; i++) {
            for (int n = 0; n < 10; n++) {
                Check.yes("trade", house.trade(0, 1, i, 1000));
            }
            Check.yes("quote", house.quote(i, 100000));
        }
        Check.yes("settle", house.settle());
        Check.number("long", 4L * 10000 * 99900, house.getBalance(0, CASH));
        Check.number("short", -4L * 10000 * 99900, house.getBalance(1, CASH));
    }

    private static void leavesAllElse() {
        Check.title("settle leaves");
        ClearingHouse house = Scene.called(3, 60, 5, 6, 7);
        Check.yes("quote", house.quote(0, 25));
        Check.yes("settle", house.settle());
        Check.number("call", 8400, house.getMargin(0, ClearingHouse.CALL));
        Check.number("position", 100, house.getPosition(0, 0));
        Check.number("house", 60, house.getHouse());
        for (int m = 0; m < 3; m++) {
            Check.number("fund " + m, 5 + m, house.getBalance(m, ClearingHouse.FUND));
            Check.number("status " + m, ClearingHouse.ACTIVE, house.getStatus(m));
        }
    }

    private static void waitsForTheAuction() {
        Check.title("settle in an auction");
        ClearingHouse house = Scene.auction(3, 0);
        Check.yes("quote", house.quote(0, 60));
        String before = State.of(house);
        Check.refused("settle", house.settle(), before, house);
    }

    private static void settlesMembersOfAnyStatus() {
        Check.title("settle after a default");
        ClearingHouse house = Scene.auction(3, 0);
        Check.yes("bid", house.bid(2, 0));
        Check.yes("close", house.closeAuction());
        Check.yes("quote", house.quote(0, 60));
        String waterfall = waterfall(house);
        Check.yes("settle", house.settle());
        Check.number("the defaulted member has no position", 0, house.getBalance(0, CASH));
        Check.number("short", 8000 - 4000, house.getBalance(1, CASH));
        Check.number("the winner", 4000, house.getBalance(2, CASH));
        Check.due("waterfall", waterfall, waterfall(house));
    }

    private static String waterfall(ClearingHouse house) {
        StringBuilder text = new StringBuilder();
        for (int layer = 0; layer < 7; layer++) {
            text.append(house.getWaterfall(layer)).append(' ');
        }
        return text.toString();
    }
}
