/** Promise 1: construction and the starting state. */
public final class StartTest {
    private static final int LEAST = Integer.MIN_VALUE;
    private static final int GREATEST = Integer.MAX_VALUE;

    private StartTest() { }

    public static void main(String[] args) {
        clampsTheMembers();
        clampsTheInstruments();
        clampsTheHouseCapital();
        clampsTheRiskPercent();
        acceptsAnyInts();
        startsWithEmptyMembers();
        startsWithoutBids();
        startsWithEqualPrices();
        startsWithTheClampedCapital();
        startsInNormalPhase();
        startsWithAnEmptyRecord();
        keepsObjectsApart();
        Check.finish();
    }

    private static void clampsTheMembers() {
        Check.sentence("members -> 2..8 (this is M)");
        int[][] cases = {{LEAST, 2}, {-1, 2}, {0, 2}, {1, 2}, {2, 2}, {3, 3}, {4, 4}, {5, 5}, {6, 6}, {7, 7}, {8, 8},
            {9, 8}, {258, 8}, {GREATEST, 8}};
        for (int[] given : cases) {
            ClearingHouse house = new ClearingHouse(given[0], 1, 0, 10);
            for (int m = -1; m <= 9; m++) {
                int due = m >= 0 && m < given[1] ? ClearingHouse.ACTIVE : -1;
                Check.number(given[0] + " members: getStatus(" + m + ")", due, house.getStatus(m));
            }
            Check.yes(given[0] + " members: the last one", house.deposit(given[1] - 1, ClearingHouse.CASH, 1));
            Check.due(given[0] + " members: one more", false, house.deposit(given[1], ClearingHouse.CASH, 1));
        }
    }

    private static void clampsTheInstruments() {
        Check.sentence("instruments -> 1..4 (this is N)");
        int[][] cases = {{LEAST, 1}, {-1, 1}, {0, 1}, {1, 1}, {2, 2}, {3, 3}, {4, 4}, {5, 4}, {257, 4}, {GREATEST, 4}};
        for (int[] given : cases) {
            ClearingHouse house = new ClearingHouse(2, given[0], 0, 10);
            for (int i = -1; i <= 5; i++) {
                int due = i >= 0 && i < given[1] ? 100 : 0;
                Check.number(given[0] + " instruments: price " + i, due, house.getPrice(i, ClearingHouse.CURRENT));
            }
            Check.yes(given[0] + " instruments: the last one", house.trade(0, 1, given[1] - 1, 1));
            Check.due(given[0] + " instruments: one more", false, house.trade(0, 1, given[1], 1));
        }
    }

    private static void clampsTheHouseCapital() {
        Check.sentence("houseCapital -> 0..1,000,000 (this is H)");
        int[][] cases = {{LEAST, 0}, {-1, 0}, {0, 0}, {1, 1}, {12345, 12345}, {999999, 999999}, {1000000, 1000000},
            {1000001, 1000000}, {GREATEST, 1000000}};
        for (int[] given : cases) {
            Check.number("capital " + given[0], given[1], new ClearingHouse(2, 1, given[0], 10).getHouse());
        }
    }

    /** At a price of 100 the width is the risk percent itself, and a position of 1 needs two widths. */
    private static void clampsTheRiskPercent() {
        Check.sentence("riskPercent -> 1..50 (this is R)");
        int[][] cases = {{LEAST, 1}, {-1, 1}, {0, 1}, {1, 1}, {2, 2}, {37, 37}, {49, 49}, {50, 50}, {51, 50},
            {100, 50}, {GREATEST, 50}};
        for (int[] given : cases) {
            ClearingHouse house = new ClearingHouse(2, 1, 0, given[0]);
            Check.yes("trade", house.trade(0, 1, 0, 1));
            Check.number("risk " + given[0], 2 * given[1], house.getMargin(0, ClearingHouse.REQUIREMENT));
        }
    }

    private static void acceptsAnyInts() {
        Check.sentence("Any int is accepted for every argument; nothing is refused.");
        int[] wild = {LEAST, LEAST + 1, -1, 0, 1, 2, 60, GREATEST};
        for (int members : wild) {
            for (int instruments : wild) {
                for (int capital : wild) {
                    for (int risk : wild) {
                        ClearingHouse house = new ClearingHouse(members, instruments, capital, risk);
                        Check.number("status of member 1", ClearingHouse.ACTIVE, house.getStatus(1));
                        Check.yes("trade", house.trade(1, 0, 0, 1));
                    }
                }
            }
        }
    }

    private static void startsWithEmptyMembers() {
        Check.sentence("every member is ACTIVE, with both accounts 0, call 0, all positions 0 and no bid");
        for (int members = 2; members <= 8; members++) {
            for (int instruments = 1; instruments <= 4; instruments++) {
                ClearingHouse house = new ClearingHouse(members, instruments, 777, 10);
                for (int m = 0; m < members; m++) {
                    Check.reads(house, "status " + m, ClearingHouse.ACTIVE, "cash " + m, 0, "fund " + m, 0,
                        "margin " + m, 0, "call " + m, 0);
                    for (int i = 0; i < instruments; i++) {
                        Check.reads(house, "position " + m + " " + i, 0);
                    }
                }
            }
        }
    }

    /** The first auction of an object in which nobody has bid. */
    private static void startsWithoutBids() {
        Check.sentence("every member is ACTIVE, with both accounts 0, call 0, all positions 0 and no bid");
        ClearingHouse house = new ClearingHouse(8, 4, 0, 10);
        Check.yes("trade", house.trade(0, 1, 0, 1));
        Check.number("calls", 2, house.callMargins());
        Check.yes("default", house.declareDefault(0));
        Check.yes("close", house.closeAuction());
        Check.reads(house, "layer 5", ClearingHouse.FORCED_ALLOCATION, "layer 6", 0);
    }

    private static void startsWithEqualPrices() {
        Check.sentence("P(i) = S(i) = 100 for every instrument;");
        for (int instruments = 1; instruments <= 4; instruments++) {
            ClearingHouse house = new ClearingHouse(2, instruments, 0, 10);
            for (int i = -1; i <= 4; i++) {
                int due = i >= 0 && i < instruments ? 100 : 0;
                Check.reads(house, "price " + i, due, "settlement " + i, due);
            }
        }
    }

    private static void startsWithTheClampedCapital() {
        Check.sentence("house capital = H;");
        Check.reads(new ClearingHouse(2, 1, 5, 10), "house", 5);
        Check.reads(new ClearingHouse(2, 1, -5, 10), "house", 0);
        Check.reads(new ClearingHouse(2, 1, 5000000, 10), "house", 1000000);
    }

    private static void startsInNormalPhase() {
        Check.sentence("the phase is NORMAL;");
        Check.refuses("bid", () -> new ClearingHouse(2, 1, 0, 10), house -> house.bid(0, 0));
        Check.refuses("closeAuction", () -> new ClearingHouse(2, 1, 0, 10), house -> house.closeAuction());
        ClearingHouse house = new ClearingHouse(2, 1, 0, 10);
        Check.does("settle", house, it -> it.settle());
        Check.does("callMargins", house, it -> it.callMargins() == 0);
    }

    private static void startsWithAnEmptyRecord() {
        Check.sentence("waterfall record: every layer 0, except WF_WINNER = NO_WINNER.");
        ClearingHouse house = new ClearingHouse(8, 4, 777, 10);
        for (int layer = 0; layer < 7; layer++) {
            int due = layer == ClearingHouse.WF_WINNER ? ClearingHouse.NO_WINNER : 0;
            Check.number("layer " + layer, due, house.getWaterfall(layer));
        }
    }

    private static void keepsObjectsApart() {
        Check.sentence("At the start:");
        ClearingHouse other = Scene.auction(4, 50, 1, 2, 3);
        ClearingHouse house = Scene.called(4, 50, 1, 2, 3);
        Check.yes("bid", other.bid(2, 5));
        Check.due("a bid in the other object only", false, house.bid(2, 5));
        Check.does("default", house, it -> it.declareDefault(0), "status 0", 1, "call 0", 0);
        Check.does("quote", house, it -> it.quote(0, 7), "price 0", 7);
        Check.reads(other, "price 0", 20, "cash 0", -8000);
        Check.yes("close", other.closeAuction());
        Check.reads(other, "status 0", 2, "layer 5", 2);
        Check.reads(house, "status 0", 1, "layer 5", ClearingHouse.NO_WINNER);
    }
}
