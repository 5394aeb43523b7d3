/** Promise 2: deposit. */
public final class DepositTest {
    private static final int CASH = ClearingHouse.CASH;
    private static final int FUND = ClearingHouse.FUND;

    private DepositTest() { }

    public static void main(String[] args) {
        paysIntoOneAccount();
        refusesWrongInputs();
        cashLowersTheCall();
        fundLeavesTheCall();
        goesOnInAnAuction();
        refusesMembersInDefault();
        growsPastInt();
        Check.finish();
    }

    private static void paysIntoOneAccount() {
        Check.title("deposit");
        ClearingHouse house = new ClearingHouse(3, 2, 500, 10);
        Check.yes("least", house.deposit(0, CASH, 1));
        Check.yes("greatest", house.deposit(1, CASH, 1000000));
        Check.yes("fund", house.deposit(2, FUND, 1000000));
        Check.yes("fund of the same member", house.deposit(0, FUND, 70));
        long[][] due = {{1, 70}, {1000000, 0}, {0, 1000000}};
        for (int m = 0; m < 3; m++) {
            Check.number("cash " + m, due[m][0], house.getBalance(m, CASH));
            Check.number("fund " + m, due[m][1], house.getBalance(m, FUND));
        }
        Check.number("house", 500, house.getHouse());
    }

    private static void refusesWrongInputs() {
        Check.title("wrong deposits");
        ClearingHouse house = new ClearingHouse(3, 2, 500, 10);
        Check.yes("deposit", house.deposit(0, CASH, 10));
        String before = State.of(house);
        Check.refused("member 3 of 3", house.deposit(3, CASH, 5), before, house);
        for (int wrong : Check.WRONG_INDEXES) {
            Check.refused("member " + wrong, house.deposit(wrong, CASH, 5), before, house);
            Check.refused("account " + wrong, house.deposit(0, wrong, 5), before, house);
        }
        Check.refused("account 2", house.deposit(0, 2, 5), before, house);
        for (int wrong : new int[] {0, -1, 1000001, Integer.MAX_VALUE, Integer.MIN_VALUE}) {
            Check.refused("cash " + wrong, house.deposit(0, CASH, wrong), before, house);
            Check.refused("fund " + wrong, house.deposit(0, FUND, wrong), before, house);
        }
    }

    private static void cashLowersTheCall() {
        Check.title("cash and the call");
        ClearingHouse house = Scene.called(3, 0);
        Check.number("call", 8400, house.getMargin(0, ClearingHouse.CALL));
        Check.yes("a part", house.deposit(0, CASH, 400));
        Check.number("call after a part", 8000, house.getMargin(0, ClearingHouse.CALL));
        Check.yes("all but one", house.deposit(0, CASH, 7999));
        Check.number("call after all but one", 1, house.getMargin(0, ClearingHouse.CALL));
        Check.yes("more than the rest", house.deposit(0, CASH, 50));
        Check.number("call never below 0", 0, house.getMargin(0, ClearingHouse.CALL));
        Check.number("cash", -8000 + 400 + 7999 + 50, house.getBalance(0, CASH));
        ClearingHouse whole = Scene.called(3, 0);
        Check.yes("the whole call", whole.deposit(0, CASH, 8400));
        Check.number("call met to the unit", 0, whole.getMargin(0, ClearingHouse.CALL));
    }

    private static void fundLeavesTheCall() {
        Check.title("fund and the call");
        ClearingHouse house = Scene.called(3, 0);
        Check.yes("fund", house.deposit(0, FUND, 9000));
        Check.number("call", 8400, house.getMargin(0, ClearingHouse.CALL));
        Check.yes("cash of another", house.deposit(1, CASH, 9000));
        Check.number("call after another's deposit", 8400, house.getMargin(0, ClearingHouse.CALL));
    }

    private static void goesOnInAnAuction() {
        Check.title("deposit in an auction");
        ClearingHouse house = Scene.auction(3, 0);
        Check.yes("cash of a survivor", house.deposit(2, CASH, 11));
        Check.yes("fund of a survivor", house.deposit(2, FUND, 12));
        Check.number("cash", 11, house.getBalance(2, CASH));
        Check.number("fund", 12, house.getBalance(2, FUND));
    }

    private static void refusesMembersInDefault() {
        Check.title("deposit of a member in default");
        ClearingHouse house = Scene.auction(3, 0);
        String before = State.of(house);
        Check.refused("cash while DEFAULTING", house.deposit(0, CASH, 5), before, house);
        Check.refused("fund while DEFAULTING", house.deposit(0, FUND, 5), before, house);
        house = Scene.closed(3, 0);
        before = State.of(house);
        Check.refused("cash when DEFAULTED", house.deposit(0, CASH, 5), before, house);
        Check.refused("fund when DEFAULTED", house.deposit(0, FUND, 5), before, house);
    }

    private static void growsPastInt() {
        Check.title("large balances");
        ClearingHouse house = new ClearingHouse(2, 1, 0, 10);
        for (int n = 0; n < 5000; n++) {
            Check.yes("cash", house.deposit(0, CASH, 1000000));
            Check.yes("fund", house.deposit(1, FUND, 1000000));
        }
        Check.number("cash", 5000000000L, house.getBalance(0, CASH));
        Check.number("fund", 5000000000L, house.getBalance(1, FUND));
    }
}
