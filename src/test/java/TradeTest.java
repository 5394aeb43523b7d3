/** Promise 5: trade. */
public final class TradeTest {
    private static final int CASH = ClearingHouse.CASH;

    private TradeTest() { }

    public static void main(String[] args) {
        movesPositions();
        paysTheGapToTheSettlementPrice();
        refusesWrongInputs();
        holdsTheLimitOnBothSides();
        triesTheLimitAfterTheTrade();
        leavesCalls();
        waitsForTheAuction();
        refusesMembersInDefault();
        Check.finish();
    }

    private static void movesPositions() {
        Check.title("trade");
        ClearingHouse house = new ClearingHouse(3, 2, 40, 10);
        Check.yes("least", house.trade(0, 1, 0, 1));
        Check.yes("greatest", house.trade(2, 0, 1, 1000));
        int[][] due = {{1, -1000}, {-1, 0}, {0, 1000}};
        for (int m = 0; m < 3; m++) {
            for (int i = 0; i < 2; i++) {
                Check.number("position " + m + " " + i, due[m][i], house.getPosition(m, i));
            }
            Check.number("cash " + m, 0, house.getBalance(m, CASH));
            Check.number("fund " + m, 0, house.getBalance(m, ClearingHouse.FUND));
        }
        Check.number("house", 40, house.getHouse());
    }

    private static void paysTheGapToTheSettlementPrice() {
        Check.title("the gap");
        ClearingHouse house = new ClearingHouse(3, 2, 40, 10);
        Check.yes("quote", house.quote(1, 130));
        Check.yes("dear", house.trade(0, 1, 1, 7));
        Check.number("buyer", -210, house.getBalance(0, CASH));
        Check.number("seller", 210, house.getBalance(1, CASH));
        Check.yes("quote", house.quote(1, 1));
        Check.yes("cheap", house.trade(0, 2, 1, 1000));
        Check.number("buyer", -210 + 99000, house.getBalance(0, CASH));
        Check.number("seller", -99000, house.getBalance(2, CASH));
        Check.yes("quote", house.quote(0, 100000));
        Check.yes("dearest", house.trade(1, 2, 0, 1000));
        Check.number("buyer", 210 - 99900000, house.getBalance(1, CASH));
        Check.number("seller", -99000 + 99900000, house.getBalance(2, CASH));
        Check.number("settlement", 100, house.getPrice(0, ClearingHouse.SETTLEMENT));
        Check.number("current", 100000, house.getPrice(0, ClearingHouse.CURRENT));
    }

    private static void refusesWrongInputs() {
        Check.title("wrong trades");
        ClearingHouse house = new ClearingHouse(3, 2, 0, 10);
        Check.yes("quote", house.quote(0, 90));
        String before = State.of(house);
        Check.refused("buyer 3 of 3", house.trade(3, 0, 0, 1), before, house);
        Check.refused("seller 3 of 3", house.trade(0, 3, 0, 1), before, house);
        Check.refused("instrument 2 of 2", house.trade(0, 1, 2, 1), before, house);
        for (int wrong : Check.WRONG_INDEXES) {
            Check.refused("buyer " + wrong, house.trade(wrong, 0, 0, 1), before, house);
            Check.refused("seller " + wrong, house.trade(0, wrong, 0, 1), before, house);
            Check.refused("both " + wrong, house.trade(wrong, wrong, 0, 1), before, house);
            Check.refused("instrument " + wrong, house.trade(0, 1, wrong, 1), before, house);
        }
        Check.refused("with oneself", house.trade(1, 1, 0, 1), before, house);
        for (int wrong : new int[] {0, -1, -1000, 1001, Integer.MAX_VALUE, Integer.MIN_VALUE}) {
            Check.refused("quantity " + wrong, house.trade(0, 1, 0, wrong), before, house);
        }
    }

    private static void holdsTheLimitOnBothSides() {
        Check.title("the limit");
        ClearingHouse house = new ClearingHouse(3, 2, 0, 10);
        for (int n = 0; n < 9; n++) {
            Check.yes("trade", house.trade(0, 1, 0, 1000));
        }
        Check.yes("one below the limit", house.trade(0, 1, 0, 999));
        String before = State.of(house);
        Check.refused("one above the limit", house.trade(0, 1, 0, 2), before, house);
        Check.refused("the buyer alone", house.trade(0, 2, 0, 2), before, house);
        Check.refused("the seller alone", house.trade(2, 1, 0, 2), before, house);
        Check.yes("at the limit", house.trade(0, 1, 0, 1));
        Check.number("buyer", 10000, house.getPosition(0, 0));
        Check.number("seller", -10000, house.getPosition(1, 0));
        before = State.of(house);
        Check.refused("the buyer at the limit", house.trade(0, 2, 0, 1), before, house);
        Check.refused("the seller at the limit", house.trade(2, 1, 0, 1), before, house);
        Check.yes("another instrument", house.trade(0, 1, 1, 1));
        Check.yes("back", house.trade(1, 0, 0, 1000));
        Check.number("back", 9000, house.getPosition(0, 0));
    }

    /** A position above the limit may be brought within it, but not merely nearer to it. */
    private static void triesTheLimitAfterTheTrade() {
        Check.title("a position above the limit");
        for (int sign = -1; sign <= 1; sign += 2) {
            ClearingHouse house = aboveTheLimit(sign, 9000, 3000);
            Check.number("position", sign * 12000, house.getPosition(1, 0));
            String before = State.of(house);
            boolean further = sign > 0 ? house.trade(1, 2, 0, 1) : house.trade(2, 1, 0, 1);
            Check.refused("further", further, before, house);
            boolean nearer = sign > 0 ? house.trade(2, 1, 0, 1000) : house.trade(1, 2, 0, 1000);
            Check.refused("nearer, but not within", nearer, before, house);
            house = aboveTheLimit(sign, 10000, 1000);
            Check.number("position", sign * 11000, house.getPosition(1, 0));
            boolean just = sign > 0 ? house.trade(2, 1, 0, 999) : house.trade(1, 2, 0, 999);
            Check.due("to one above the limit", false, just);
            boolean within = sign > 0 ? house.trade(2, 1, 0, 1000) : house.trade(1, 2, 0, 1000);
            Check.yes("to the limit", within);
            Check.number("position", sign * 10000, house.getPosition(1, 0));
        }
    }

    /** Member 1 wins the portfolio of member 0 and comes out above the limit, on the side of sign. */
    private static ClearingHouse aboveTheLimit(int sign, int own, int won) {
        ClearingHouse house = new ClearingHouse(4, 1, 0, 10);
        build(house, sign, 1, 2, own);
        build(house, sign, 0, 3, won);
        Check.yes("deposit", house.deposit(1, CASH, 1000000));
        Check.yes("calls", house.callMargins() > 0);
        Check.yes("default", house.declareDefault(0));
        Check.yes("bid", house.bid(1, 0));
        Check.yes("close", house.closeAuction());
        return house;
    }

    private static void build(ClearingHouse house, int sign, int member, int other, int quantity) {
        for (int left = quantity; left > 0; left -= 1000) {
            int buyer = sign > 0 ? member : other;
            int seller = sign > 0 ? other : member;
            Check.yes("build", house.trade(buyer, seller, 0, Math.min(left, 1000)));
        }
    }

    private static void leavesCalls() {
        Check.title("trade while called");
        ClearingHouse house = Scene.called(3, 0);
        Check.yes("a called member trades", house.trade(0, 2, 1, 10));
        Check.number("call", 8400, house.getMargin(0, ClearingHouse.CALL));
        Check.number("no call of the other", 0, house.getMargin(2, ClearingHouse.CALL));
    }

    private static void waitsForTheAuction() {
        Check.title("trade in an auction");
        ClearingHouse house = Scene.auction(3, 0);
        String before = State.of(house);
        Check.refused("survivors", house.trade(1, 2, 0, 1), before, house);
        Check.refused("the defaulter", house.trade(1, 0, 0, 1), before, house);
        Check.yes("close", house.closeAuction());
        Check.yes("survivors after it", house.trade(1, 2, 0, 1));
    }

    private static void refusesMembersInDefault() {
        Check.title("trade of a DEFAULTED member");
        ClearingHouse house = Scene.closed(3, 0);
        String before = State.of(house);
        Check.refused("as buyer", house.trade(0, 1, 0, 1), before, house);
        Check.refused("as seller", house.trade(1, 0, 0, 1), before, house);
    }
}
