/** Promise 7, callMargins, and promise 15, getMargin, with the initial margin both rest on. */
public final class MarginTest {
    private static final int CASH = ClearingHouse.CASH;
    private static final int REQUIREMENT = ClearingHouse.REQUIREMENT;
    private static final int CALL = ClearingHouse.CALL;

    private MarginTest() { }

    public static void main(String[] args) {
        requiresTwoWidths();
        roundsTheWidthDown();
        offsetsAcrossInstruments();
        reachesPastInt();
        readsWrongIndexes();
        callsTheShortfall();
        countsTheCalls();
        replacesOldCalls();
        callsLeaveAllElse();
        waitsForTheAuction();
        callsNobodyInDefault();
        readsAnyStatus();
        Check.finish();
    }

    private static void requiresTwoWidths() {
        Check.title("one instrument");
        ClearingHouse house = new ClearingHouse(3, 1, 0, 10);
        Check.yes("trade", house.trade(0, 1, 0, 5));
        Check.number("long", 100, house.getMargin(0, REQUIREMENT));
        Check.number("short", 100, house.getMargin(1, REQUIREMENT));
        Check.number("flat", 0, house.getMargin(2, REQUIREMENT));
        Check.yes("quote", house.quote(0, 300));
        Check.number("a quote changes nothing", 100, house.getMargin(0, REQUIREMENT));
        Check.yes("settle", house.settle());
        Check.number("a settle does", 300, house.getMargin(0, REQUIREMENT));
    }

    private static void roundsTheWidthDown() {
        Check.title("the width");
        int[][] cases = {{99, 10, 9}, {9, 10, 0}, {10, 10, 1}, {199, 1, 1}, {99, 1, 0}, {1, 50, 0}, {3, 50, 1},
            {100000, 50, 50000}, {99999, 50, 49999}, {333, 33, 109}};
        for (int[] given : cases) {
            ClearingHouse house = new ClearingHouse(2, 1, 0, given[1]);
            Check.yes("trade", house.trade(0, 1, 0, 3));
            Check.yes("quote", house.quote(0, given[0]));
            Check.yes("settle", house.settle());
            String what = "price " + given[0] + ", risk " + given[1];
            Check.number(what + ": long", 6L * given[2], house.getMargin(0, REQUIREMENT));
            Check.number(what + ": short", 6L * given[2], house.getMargin(1, REQUIREMENT));
        }
    }

    /** Width 10 each. Two equal and opposite positions: one step apart is the worst, so one width, not four. */
    private static void offsetsAcrossInstruments() {
        Check.title("several instruments");
        int[][] cases = {{5, -5, 0, 0, 50}, {5, 5, 0, 0, 200}, {-5, -5, 0, 0, 200}, {5, -3, 0, 0, 70},
            {3, -5, 0, 0, 70}, {5, -1, 0, 0, 90}, {4, -4, 4, -4, 80}, {4, 4, 4, -4, 200}, {1, 2, 3, 4, 200},
            {-1, -2, -3, 4, 80}, {10, -1, -1, -1, 170}};
        for (int[] given : cases) {
            ClearingHouse house = new ClearingHouse(2, 4, 0, 10);
            for (int i = 0; i < 4; i++) {
                if (given[i] > 0) {
                    Check.yes("buy", house.trade(0, 1, i, given[i]));
                } else if (given[i] < 0) {
                    Check.yes("sell", house.trade(1, 0, i, -given[i]));
                }
            }
            String what = given[0] + " " + given[1] + " " + given[2] + " " + given[3];
            Check.number(what, given[4], house.getMargin(0, REQUIREMENT));
            Check.number("against " + what, given[4], house.getMargin(1, REQUIREMENT));
        }
    }

    private static void reachesPastInt() {
        Check.title("a margin above the int range");
        ClearingHouse house = new ClearingHouse(2, 4, 0, 50);
        for (int i = 0; i < 4; i++) {
            for (int n = 0; n < 10; n++) {
                Check.yes("trade", house.trade(0, 1, i, 1000));
            }
            Check.yes("quote", house.quote(i, 100000));
        }
        Check.yes("settle", house.settle());
        Check.number("long", 4000000000L, house.getMargin(0, REQUIREMENT));
        Check.number("short", 4000000000L, house.getMargin(1, REQUIREMENT));
        Check.number("calls", 2, house.callMargins());
        Check.number("call of the long", 4000000000L - 3996000000L, house.getMargin(0, CALL));
        Check.number("call of the short", 4000000000L + 3996000000L, house.getMargin(1, CALL));
    }

    private static void readsWrongIndexes() {
        Check.title("getMargin of wrong indexes");
        ClearingHouse house = Scene.called(3, 0);
        Check.number("requirement", 400, house.getMargin(0, REQUIREMENT));
        Check.number("call", 8400, house.getMargin(0, CALL));
        Check.number("selector 2", 0, house.getMargin(0, 2));
        Check.number("member 3 of 3", 0, house.getMargin(3, REQUIREMENT));
        for (int wrong : Check.WRONG_INDEXES) {
            Check.number("selector " + wrong, 0, house.getMargin(0, wrong));
            Check.number("requirement of member " + wrong, 0, house.getMargin(wrong, REQUIREMENT));
            Check.number("call of member " + wrong, 0, house.getMargin(wrong, CALL));
        }
    }

    private static void callsTheShortfall() {
        Check.title("callMargins");
        ClearingHouse house = new ClearingHouse(3, 1, 0, 10);
        Check.yes("trade", house.trade(0, 1, 0, 5));
        Check.yes("just enough", house.deposit(0, CASH, 100));
        Check.yes("one too few", house.deposit(1, CASH, 99));
        Check.number("no call before", 0, house.getMargin(1, CALL));
        Check.number("calls", 1, house.callMargins());
        Check.number("call 0", 0, house.getMargin(0, CALL));
        Check.number("call 1", 1, house.getMargin(1, CALL));
        Check.number("call 2", 0, house.getMargin(2, CALL));
    }

    private static void countsTheCalls() {
        Check.title("the number of calls");
        ClearingHouse house = new ClearingHouse(8, 1, 0, 10);
        Check.number("none", 0, house.callMargins());
        for (int m = 0; m < 8; m += 2) {
            Check.yes("trade", house.trade(m, m + 1, 0, 1));
            Check.number("calls", m + 2, house.callMargins());
        }
        for (int m = 0; m < 8; m++) {
            Check.number("call", 20, house.getMargin(m, CALL));
        }
    }

    private static void replacesOldCalls() {
        Check.title("calls anew");
        ClearingHouse house = Scene.called(3, 0);
        Check.yes("quote", house.quote(0, 200));
        Check.yes("settle", house.settle());
        Check.number("the old call stands", 8400, house.getMargin(0, CALL));
        Check.number("calls", 1, house.callMargins());
        Check.number("the winner of the move is free", 0, house.getMargin(0, CALL));
        Check.number("the loser is called", 4000 + 10000, house.getMargin(1, CALL));
        Check.number("again", 1, house.callMargins());
        Check.number("calls do not add up", 14000, house.getMargin(1, CALL));
    }

    private static void callsLeaveAllElse() {
        Check.title("callMargins leaves");
        ClearingHouse house = Scene.called(3, 60, 5, 6, 7);
        String before = State.of(house);
        Check.number("calls", 1, house.callMargins());
        Check.due("all else", before, State.of(house));
    }

    private static void waitsForTheAuction() {
        Check.title("callMargins in an auction");
        ClearingHouse house = new ClearingHouse(3, 1, 0, 10);
        Check.yes("trade", house.trade(0, 1, 0, 5));
        Check.number("calls", 2, house.callMargins());
        Check.yes("default", house.declareDefault(0));
        String before = State.of(house);
        Check.number("refused", -1, house.callMargins());
        Check.due("nothing changes", before, State.of(house));
        Check.number("the other call stands", 100, house.getMargin(1, CALL));
    }

    private static void callsNobodyInDefault() {
        Check.title("callMargins after a default");
        ClearingHouse house = Scene.closed(3, 0);
        Check.number("calls", 0, house.callMargins());
        Check.number("call", 0, house.getMargin(0, CALL));
    }

    private static void readsAnyStatus() {
        Check.title("getMargin of any status");
        ClearingHouse house = Scene.auction(3, 0);
        Check.number("requirement while DEFAULTING", 400, house.getMargin(0, REQUIREMENT));
        Check.number("call while DEFAULTING", 0, house.getMargin(0, CALL));
        Check.number("requirement of a survivor", 400, house.getMargin(1, REQUIREMENT));
        Check.yes("bid", house.bid(2, 0));
        Check.yes("close", house.closeAuction());
        Check.number("requirement when DEFAULTED", 0, house.getMargin(0, REQUIREMENT));
        Check.number("requirement of the winner", 400, house.getMargin(2, REQUIREMENT));
    }
}
