/** Promise 1: construction and the starting state. */
public final class StartTest {
    private StartTest() { }

    public static void main(String[] args) {
        clampsTheMembers();
        clampsTheInstruments();
        clampsTheHouseCapital();
        clampsTheRiskPercent();
        startsEmpty();
        startsInNormalPhase();
        keepsObjectsApart();
        Check.finish();
    }

    private static void clampsTheMembers() {
        Check.title("members");
        int[][] cases = {{Integer.MIN_VALUE, 2}, {-1, 2}, {0, 2}, {1, 2}, {2, 2}, {3, 3}, {5, 5}, {7, 7}, {8, 8},
            {9, 8}, {Integer.MAX_VALUE, 8}};
        for (int[] given : cases) {
            ClearingHouse house = new ClearingHouse(given[0], 1, 0, 10);
            for (int m = -1; m <= 9; m++) {
                int due = m >= 0 && m < given[1] ? ClearingHouse.ACTIVE : -1;
                Check.number(given[0] + " members: getStatus(" + m + ")", due, house.getStatus(m));
            }
        }
    }

    private static void clampsTheInstruments() {
        Check.title("instruments");
        int[][] cases = {{Integer.MIN_VALUE, 1}, {-1, 1}, {0, 1}, {1, 1}, {2, 2}, {3, 3}, {4, 4}, {5, 4},
            {Integer.MAX_VALUE, 4}};
        for (int[] given : cases) {
            ClearingHouse house = new ClearingHouse(2, given[0], 0, 10);
            for (int i = -1; i <= 5; i++) {
                int due = i >= 0 && i < given[1] ? 100 : 0;
                Check.number(given[0] + " instruments: current price " + i, due, house.getPrice(i, 0));
                Check.number(given[0] + " instruments: settlement price " + i, due, house.getPrice(i, 1));
            }
        }
    }

    private static void clampsTheHouseCapital() {
        Check.title("house capital");
        int[][] cases = {{Integer.MIN_VALUE, 0}, {-1, 0}, {0, 0}, {1, 1}, {12345, 12345}, {999999, 999999},
            {1000000, 1000000}, {1000001, 1000000}, {Integer.MAX_VALUE, 1000000}};
        for (int[] given : cases) {
            Check.number("capital " + given[0], given[1], new ClearingHouse(2, 1, given[0], 10).getHouse());
        }
    }

    private static void clampsTheRiskPercent() {
        Check.title("risk percent");
        int[][] cases = {{Integer.MIN_VALUE, 1}, {-1, 1}, {0, 1}, {1, 1}, {2, 2}, {37, 37}, {49, 49}, {50, 50},
            {51, 50}, {Integer.MAX_VALUE, 50}};
        for (int[] given : cases) {
            ClearingHouse house = new ClearingHouse(2, 1, 0, given[0]);
            Check.yes("trade", house.trade(0, 1, 0, 1));
            Check.number("risk " + given[0] + ": margin", 2 * given[1], house.getMargin(0, 0));
        }
    }

    private static void startsEmpty() {
        Check.title("the start");
        ClearingHouse house = new ClearingHouse(8, 4, 777, 10);
        for (int m = 0; m < 8; m++) {
            Check.number("cash", 0, house.getBalance(m, ClearingHouse.CASH));
            Check.number("fund", 0, house.getBalance(m, ClearingHouse.FUND));
            Check.number("requirement", 0, house.getMargin(m, ClearingHouse.REQUIREMENT));
            Check.number("call", 0, house.getMargin(m, ClearingHouse.CALL));
            for (int i = 0; i < 4; i++) {
                Check.number("position", 0, house.getPosition(m, i));
            }
        }
        for (int layer = 0; layer < 7; layer++) {
            int due = layer == ClearingHouse.WF_WINNER ? ClearingHouse.NO_WINNER : 0;
            Check.number("layer " + layer, due, house.getWaterfall(layer));
        }
    }

    private static void startsInNormalPhase() {
        Check.title("the phase at the start");
        ClearingHouse house = new ClearingHouse(2, 1, 0, 10);
        String before = State.of(house);
        Check.refused("bid", house.bid(0, 0), before, house);
        Check.refused("closeAuction", house.closeAuction(), before, house);
        Check.yes("settle", house.settle());
        Check.number("callMargins", 0, house.callMargins());
    }

    private static void keepsObjectsApart() {
        Check.title("two objects");
        ClearingHouse one = new ClearingHouse(2, 1, 0, 10);
        ClearingHouse other = new ClearingHouse(2, 1, 0, 10);
        String before = State.of(other);
        Check.yes("deposit", one.deposit(0, 0, 5));
        Check.yes("quote", one.quote(0, 7));
        Check.yes("trade", one.trade(0, 1, 0, 3));
        Check.due("the other object", before, State.of(other));
    }
}
