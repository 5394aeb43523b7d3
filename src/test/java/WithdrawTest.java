/** Promise 3: withdraw. */
public final class WithdrawTest {
    private static final int CASH = ClearingHouse.CASH;
    private static final int FUND = ClearingHouse.FUND;

    private WithdrawTest() { }

    public static void main(String[] args) {
        refusesWrongInputs();
        keepsTheMarginInCash();
        usesTheSettlementPriceOfTheMoment();
        keepsCashWhileCalled();
        emptiesTheFund();
        leavesTheCallWhenFundGoes();
        waitsForTheAuction();
        paysMembersInDefault();
        Check.finish();
    }

    private static void refusesWrongInputs() {
        Check.title("wrong withdrawals");
        ClearingHouse house = new ClearingHouse(3, 2, 500, 10);
        for (int n = 0; n < 3; n++) {
            Check.yes("deposit", house.deposit(0, CASH, 1000000));
            Check.yes("deposit", house.deposit(0, FUND, 1000000));
        }
        String before = State.of(house);
        Check.refused("member 3 of 3", house.withdraw(3, CASH, 5), before, house);
        for (int wrong : Check.WRONG_INDEXES) {
            Check.refused("member " + wrong, house.withdraw(wrong, FUND, 5), before, house);
            Check.refused("account " + wrong, house.withdraw(0, wrong, 5), before, house);
        }
        Check.refused("account 2", house.withdraw(0, 2, 5), before, house);
        for (int wrong : new int[] {0, -1, 1000001, Integer.MAX_VALUE, Integer.MIN_VALUE}) {
            Check.refused("cash " + wrong, house.withdraw(0, CASH, wrong), before, house);
            Check.refused("fund " + wrong, house.withdraw(0, FUND, wrong), before, house);
        }
        Check.yes("the greatest", house.withdraw(0, CASH, 1000000));
        Check.yes("the least", house.withdraw(0, FUND, 1));
        Check.number("cash", 2000000, house.getBalance(0, CASH));
        Check.number("fund", 2999999, house.getBalance(0, FUND));
        Check.number("house", 500, house.getHouse());
    }

    private static void keepsTheMarginInCash() {
        Check.title("cash above the margin");
        ClearingHouse house = new ClearingHouse(2, 1, 0, 10);
        Check.yes("deposit", house.deposit(0, CASH, 3000));
        Check.yes("fund", house.deposit(0, FUND, 5000));
        Check.yes("trade", house.trade(0, 1, 0, 100));
        String before = State.of(house);
        Check.refused("one too much", house.withdraw(0, CASH, 1001), before, house);
        Check.yes("down to the margin", house.withdraw(0, CASH, 1000));
        Check.number("cash", 2000, house.getBalance(0, CASH));
        Check.number("fund", 5000, house.getBalance(0, FUND));
        before = State.of(house);
        Check.refused("one more", house.withdraw(0, CASH, 1), before, house);
        Check.refused("of an empty account", house.withdraw(1, CASH, 1), before, house);
    }

    private static void usesTheSettlementPriceOfTheMoment() {
        Check.title("margin of the moment");
        ClearingHouse house = new ClearingHouse(2, 1, 0, 10);
        Check.yes("deposit", house.deposit(0, CASH, 3000));
        Check.yes("trade", house.trade(0, 1, 0, 100));
        Check.yes("quote", house.quote(0, 200));
        Check.yes("a quote does not change the margin", house.withdraw(0, CASH, 1000));
        Check.yes("settle", house.settle());
        Check.number("cash", 12000, house.getBalance(0, CASH));
        String before = State.of(house);
        Check.refused("the margin is 4000 now", house.withdraw(0, CASH, 8001), before, house);
        Check.yes("down to the new margin", house.withdraw(0, CASH, 8000));
    }

    private static void keepsCashWhileCalled() {
        Check.title("cash while called");
        ClearingHouse house = Scene.called(3, 0);
        Check.yes("all but one", house.deposit(0, CASH, 8399));
        Check.yes("a gain", house.trade(1, 0, 0, 100));
        Check.number("no margin is needed any more", 0, house.getMargin(0, ClearingHouse.REQUIREMENT));
        String before = State.of(house);
        Check.refused("call of 1", house.withdraw(0, CASH, 1), before, house);
        Check.number("callMargins", 0, house.callMargins());
        Check.yes("call gone", house.withdraw(0, CASH, 1));
    }

    private static void emptiesTheFund() {
        Check.title("fund");
        ClearingHouse house = new ClearingHouse(2, 1, 0, 10);
        Check.yes("fund", house.deposit(1, FUND, 500));
        Check.yes("margin does not hold the fund", house.trade(0, 1, 0, 100));
        String before = State.of(house);
        Check.refused("one too much", house.withdraw(1, FUND, 501), before, house);
        Check.yes("all", house.withdraw(1, FUND, 500));
        Check.number("fund", 0, house.getBalance(1, FUND));
        before = State.of(house);
        Check.refused("of an empty fund", house.withdraw(1, FUND, 1), before, house);
    }

    private static void leavesTheCallWhenFundGoes() {
        Check.title("fund while called");
        ClearingHouse house = Scene.called(3, 0, 700);
        Check.yes("fund", house.withdraw(0, FUND, 300));
        Check.number("fund", 400, house.getBalance(0, FUND));
        Check.number("call", 8400, house.getMargin(0, ClearingHouse.CALL));
        Check.number("cash", -8000, house.getBalance(0, CASH));
    }

    private static void waitsForTheAuction() {
        Check.title("withdraw in an auction");
        ClearingHouse house = Scene.auction(3, 0, 100, 100, 100);
        String before = State.of(house);
        for (int m = 0; m < 3; m++) {
            Check.refused("cash", house.withdraw(m, CASH, 1), before, house);
            Check.refused("fund", house.withdraw(m, FUND, 1), before, house);
        }
        Check.yes("close", house.closeAuction());
        Check.yes("cash after it", house.withdraw(1, CASH, 1));
    }

    private static void paysMembersInDefault() {
        Check.title("withdraw of a DEFAULTED member");
        ClearingHouse house = Scene.auction(3, 0, 9000);
        Check.yes("bid", house.bid(2, 8100));
        Check.yes("close", house.closeAuction());
        Check.number("cash left", 100, house.getBalance(0, CASH));
        String before = State.of(house);
        Check.refused("cash", house.withdraw(0, CASH, 101), before, house);
        Check.yes("cash", house.withdraw(0, CASH, 100));
        Check.yes("fund", house.withdraw(0, FUND, 9000));
        Check.number("cash", 0, house.getBalance(0, CASH));
        Check.number("fund", 0, house.getBalance(0, FUND));
    }
}
