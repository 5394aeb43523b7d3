/** Risk width and initial margin, promise 7, callMargins, and promise 15, getMargin. */
public final class MarginTest {
    private static final int CASH = ClearingHouse.CASH;
    private static final int REQUIREMENT = ClearingHouse.REQUIREMENT;
    private static final int CALL = ClearingHouse.CALL;

    private MarginTest() { }

    public static void main(String[] args) {
        roundsTheWidthDown();
        takesTheClampedRisk();
        goesTwoWidthsAndNoFurther();
        letsScenariosLieOneApart();
        neverGoesBelowZero();
        takesTheMoment();
        takesAnyStatus();
        waitsForTheAuction();
        callsTheShortfall();
        callsMoreThanTheMarginWhenInDebt();
        callsNobodyInDefault();
        countsTheCalls();
        replacesOldCalls();
        callsLeaveAllElse();
        readsWrongMembers();
        readsWrongSelectors();
        readsBothInEitherPhase();
        Check.finish();
    }

    private static void roundsTheWidthDown() {
        Check.sentence("w(i) = (S(i) * R) / 100 with integer division, where R is the clamped riskPercent.");
        int[][] cases = {{99, 1, 0}, {100, 1, 1}, {199, 1, 1}, {200, 1, 2}, {1, 1, 0}, {1, 50, 0}, {2, 50, 1},
            {3, 50, 1}, {9, 10, 0}, {10, 10, 1}, {99, 10, 9}, {333, 33, 109}, {99999, 50, 49999}, {100000, 50, 50000},
            {100000, 1, 1000}, {99999, 1, 999}};
        for (int[] given : cases) {
            ClearingHouse house = new ClearingHouse(2, 1, 0, given[1]);
            Check.yes("trade", house.trade(0, 1, 0, 3));
            Check.yes("quote", house.quote(0, given[0]));
            Check.yes("settle", house.settle());
            String what = "price " + given[0] + ", risk " + given[1];
            Check.number(what + ": long", 6L * given[2], house.getMargin(0, REQUIREMENT));
            Check.number(what + ": short", 6L * given[2], house.getMargin(1, REQUIREMENT));
        }
    }

    private static void takesTheClampedRisk() {
        Check.sentence("where R is the clamped riskPercent.");
        int[][] cases = {{-10, 2}, {0, 2}, {1, 2}, {50, 100}, {51, 100}, {200, 100}};
        for (int[] given : cases) {
            ClearingHouse house = new ClearingHouse(2, 1, 0, given[0]);
            Check.yes("trade", house.trade(0, 1, 0, 1));
            Check.number("risk " + given[0], given[1], house.getMargin(0, REQUIREMENT));
        }
    }

    /** The margin of member 0 with these positions, at width 10 each; member 1 holds the opposite. */
    private static void needs(int due, int... positions) {
        ClearingHouse house = new ClearingHouse(2, positions.length, 0, 10);
        StringBuilder what = new StringBuilder("positions");
        for (int i = 0; i < positions.length; i++) {
            Scene.build(house, 0, 1, i, positions[i]);
            what.append(' ').append(positions[i]);
        }
        Check.number(what.toString(), due, house.getMargin(0, REQUIREMENT));
        Check.number("the opposite of " + what, due, house.getMargin(1, REQUIREMENT));
    }

    private static void goesTwoWidthsAndNoFurther() {
        Check.sentence("Take every vector c = (c(0),..,c(N-1)) such that each c(i) is in {-2,-1,0,1,2}");
        needs(20, 1);
        needs(100, 5);
        needs(200, 5, 5);
        needs(240, 5, 3, 4);
        needs(200, 1, 2, 3, 4);
        needs(200000, 10000);
    }

    /** Two equal and opposite positions: one step apart is the worst that is allowed, so one width, not four. */
    private static void letsScenariosLieOneApart() {
        Check.sentence("(greatest c(i)) - (least c(i)) <= 1.");
        needs(50, 5, -5);
        needs(70, 5, -3);
        needs(70, 3, -5);
        needs(90, 5, -1);
        needs(20, 1, 0);
        needs(20, 0, 1);
        needs(80, 4, -4, 4, -4);
        needs(200, 4, 4, 4, -4);
        needs(80, -1, -2, -3, 4);
        needs(170, 10, -1, -1, -1);
        needs(50, 1, -1, 2, 0);
        needs(10, 0, 0, 1, -1);
    }

    private static void neverGoesBelowZero() {
        Check.sentence("It is never below 0, since c = (0,..,0) is included.");
        needs(0, 0);
        needs(0, 0, 0, 0, 0);
        ClearingHouse house = new ClearingHouse(2, 2, 0, 1);
        Check.yes("trade", house.trade(0, 1, 0, 1000));
        Check.yes("trade", house.trade(1, 0, 1, 1000));
        Check.yes("quote", house.quote(0, 99));
        Check.yes("quote", house.quote(1, 99));
        Check.yes("settle", house.settle());
        Check.reads(house, "margin 0", 0, "margin 1", 0);
    }

    private static void takesTheMoment() {
        Check.sentence("IM(m) always uses the positions and settlement prices of the moment it is needed,"
            + " for any status.");
        ClearingHouse house = new ClearingHouse(3, 1, 0, 10);
        Check.yes("trade", house.trade(0, 1, 0, 5));
        Check.reads(house, "margin 0", 100, "margin 1", 100, "margin 2", 0);
        Check.yes("quote", house.quote(0, 300));
        Check.reads(house, "margin 0", 100, "margin 1", 100, "margin 2", 0);
        Check.yes("settle", house.settle());
        Check.reads(house, "margin 0", 300, "margin 1", 300, "margin 2", 0);
        Check.yes("trade", house.trade(1, 0, 0, 4));
        Check.reads(house, "margin 0", 60, "margin 1", 60, "margin 2", 0);
        Check.yes("trade", house.trade(1, 2, 0, 2));
        Check.reads(house, "margin 0", 60, "margin 1", 60, "margin 2", 120);
    }

    private static void takesAnyStatus() {
        Check.sentence("which = REQUIREMENT answers IM(member), computed now from the current positions and settlement"
            + " prices, for any status and phase;");
        ClearingHouse house = Scene.auction(3, 0);
        Check.reads(house, "status 0", ClearingHouse.DEFAULTING, "margin 0", 400, "margin 1", 400, "margin 2", 0);
        Check.yes("bid", house.bid(2, 0));
        Check.yes("close", house.closeAuction());
        Check.reads(house, "status 0", ClearingHouse.DEFAULTED, "margin 0", 0, "margin 1", 400, "margin 2", 400);
    }

    private static void waitsForTheAuction() {
        Check.sentence("Refused, answering -1 with nothing changed, unless the phase is NORMAL.");
        Check.number("in an auction", -1, Scene.auctionWithBids().callMargins());
        Check.refuses("callMargins", Scene::auctionWithBids, house -> house.callMargins() != -1);
        ClearingHouse house = Scene.auctionWithBids();
        Check.yes("close", house.closeAuction());
        Check.number("after it", 2, house.callMargins());
    }

    private static void callsTheShortfall() {
        Check.sentence("if ACTIVE, call := max(0, IM(m) - cash(m));");
        int[][] cases = {{0, 100}, {1, 99}, {99, 1}, {100, 0}, {101, 0}, {1000000, 0}};
        for (int[] given : cases) {
            ClearingHouse house = new ClearingHouse(3, 1, 0, 10);
            Check.yes("trade", house.trade(0, 1, 0, 5));
            Scene.pay(house, 0, CASH, 1000000);
            Scene.pay(house, 1, CASH, given[0]);
            Check.reads(house, "call 0", 0, "call 1", 0);
            int count = given[1] > 0 ? 1 : 0;
            Check.does("cash " + given[0], house, it -> it.callMargins() == count, "call 1", given[1]);
        }
    }

    private static void callsMoreThanTheMarginWhenInDebt() {
        Check.sentence("if ACTIVE, call := max(0, IM(m) - cash(m));");
        ClearingHouse house = Scene.called(3, 0);
        Check.reads(house, "cash 0", -8000, "margin 0", 400, "call 0", 8400);
        Check.yes("all is given away", house.trade(1, 0, 0, 100));
        Check.does("debt without a position", house, it -> it.callMargins() == 1, "call 0", 8000);
        Check.yes("fund", house.deposit(0, ClearingHouse.FUND, 1000000));
        Check.does("the fund does not count", house, it -> it.callMargins() == 1);
    }

    private static void callsNobodyInDefault() {
        Check.sentence("otherwise call := 0.");
        ClearingHouse house = Scene.bothCalled(3, 0);
        Check.yes("default", house.declareDefault(0));
        Check.yes("bid", house.bid(2, -70));
        Check.yes("close", house.closeAuction());
        Check.yes("cash of the other", house.deposit(1, CASH, 100));
        Check.yes("cash of the winner", house.deposit(2, CASH, 30));
        Check.does("callMargins", house, it -> it.callMargins() == 0);
        Check.reads(house, "status 0", ClearingHouse.DEFAULTED, "call 0", 0);
    }

    private static void countsTheCalls() {
        Check.sentence("Answers the number of members whose call is now > 0 (0..M).");
        for (int members = 2; members <= 8; members++) {
            ClearingHouse house = new ClearingHouse(members, 1, 0, 10);
            Check.number("none of " + members, 0, house.callMargins());
            for (int m = 1; m < members; m++) {
                Check.yes("trade", house.trade(m, 0, 0, 1));
                Check.number("of " + members, m + 1, house.callMargins());
            }
            for (int m = 1; m < members; m++) {
                Check.reads(house, "call " + m, 20);
                Check.yes("deposit", house.deposit(m, CASH, 20));
                Check.number("of " + members, members - m, house.callMargins());
            }
            Check.reads(house, "call 0", 20 * (members - 1));
        }
    }

    private static void replacesOldCalls() {
        Check.sentence("if ACTIVE, call := max(0, IM(m) - cash(m));");
        ClearingHouse house = Scene.called(3, 0);
        Check.yes("quote", house.quote(0, 200));
        Check.yes("settle", house.settle());
        Check.reads(house, "call 0", 8400, "call 1", 0);
        Check.does("the price has turned", house, it -> it.callMargins() == 1, "call 0", 0, "call 1", 4000 + 10000);
        Check.does("calls do not add up", house, it -> it.callMargins() == 1);
    }

    private static void callsLeaveAllElse() {
        Check.sentence("Balances, positions, prices, statuses, the house capital and the waterfall record are"
            + " unchanged.");
        ClearingHouse house = Scene.closed(4, 60, 5, 6, 7);
        Check.yes("quote", house.quote(0, 21));
        Check.yes("trade", house.trade(3, 2, 1, 50));
        Check.reads(house, "position 2 0", 53, "position 2 1", -50, "margin 2", 2 * 500 - 106);
        Check.does("callMargins", house, it -> it.callMargins() == 2, "call 2", 894, "call 3", 1000);
    }

    private static void readsWrongMembers() {
        Check.sentence("Answers 0 if the member or selector is invalid.");
        ClearingHouse house = Scene.called(3, 0);
        Check.number("member 3 of 3", 0, house.getMargin(3, REQUIREMENT));
        for (int wrong : Check.WRONG_INDEXES) {
            Check.number("requirement of member " + wrong, 0, house.getMargin(wrong, REQUIREMENT));
            Check.number("call of member " + wrong, 0, house.getMargin(wrong, CALL));
        }
    }

    private static void readsWrongSelectors() {
        Check.sentence("Answers 0 if the member or selector is invalid.");
        ClearingHouse house = Scene.called(3, 0);
        Check.number("selector 2", 0, house.getMargin(0, 2));
        for (int wrong : Check.WRONG_INDEXES) {
            Check.number("selector " + wrong, 0, house.getMargin(0, wrong));
        }
        Check.number("requirement", 400, house.getMargin(0, REQUIREMENT));
        Check.number("call", 8400, house.getMargin(0, CALL));
    }

    private static void readsBothInEitherPhase() {
        Check.sentence("which = CALL answers the outstanding call.");
        ClearingHouse house = Scene.bothCalled(3, 0);
        Check.reads(house, "call 0", 100, "call 1", 100, "call 2", 0);
        Check.yes("default", house.declareDefault(0));
        Check.reads(house, "call 0", 0, "call 1", 100, "call 2", 0);
        Check.yes("close", house.closeAuction());
        Check.reads(house, "call 0", 0, "call 1", 100, "call 2", 0);
    }
}
