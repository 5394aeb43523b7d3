/** Promise 3: withdraw. */
public final class WithdrawTest {
    private static final int CASH = ClearingHouse.CASH;
    private static final int FUND = ClearingHouse.FUND;

    private WithdrawTest() { }

    public static void main(String[] args) {
        refusesWrongMembers();
        refusesWrongAccounts();
        refusesTooLittle();
        refusesTooMuch();
        takesTheEdges();
        waitsForTheAuction();
        keepsCashWhileCalled();
        keepsTheMarginInCash();
        emptiesCashWithoutMargin();
        paysNothingOutOfDebt();
        takesTheMarginOfTheMoment();
        emptiesTheFund();
        fundIsNotHeldByTheCall();
        paysMembersInDefault();
        leavesAllElse();
        Check.finish();
    }

    /** Member 0 has 3,000,000 in both accounts, no position and no call. */
    private static ClearingHouse rich() {
        ClearingHouse house = Scene.funded(3, 500, 0, 6, 7);
        Scene.pay(house, 0, CASH, 3000000);
        Scene.pay(house, 0, FUND, 3000000);
        return house;
    }

    private static void refusesWrongMembers() {
        Check.sentence("Tests, in order: member valid; account is CASH or FUND; 1 <= amount <= MAX_AMOUNT;"
            + " phase is NORMAL; then");
        for (int account = 0; account < 2; account++) {
            int given = account;
            Check.refuses("member 3 of 3", WithdrawTest::rich, house -> house.withdraw(3, given, 5));
            for (int wrong : Check.WRONG_INDEXES) {
                Check.refuses("member " + wrong, WithdrawTest::rich, house -> house.withdraw(wrong, given, 5));
            }
        }
    }

    private static void refusesWrongAccounts() {
        Check.sentence("account is CASH or FUND");
        Check.refuses("account 2", WithdrawTest::rich, house -> house.withdraw(0, 2, 5));
        for (int wrong : Check.WRONG_INDEXES) {
            Check.refuses("account " + wrong, WithdrawTest::rich, house -> house.withdraw(0, wrong, 5));
        }
    }

    private static void refusesTooLittle() {
        Check.sentence("1 <= amount");
        for (int wrong : new int[] {0, -1, -1000000, Integer.MIN_VALUE, Integer.MIN_VALUE + 1}) {
            Check.refuses("cash " + wrong, WithdrawTest::rich, house -> house.withdraw(0, CASH, wrong));
            Check.refuses("fund " + wrong, WithdrawTest::rich, house -> house.withdraw(0, FUND, wrong));
        }
    }

    private static void refusesTooMuch() {
        Check.sentence("amount <= MAX_AMOUNT");
        for (int wrong : new int[] {1000001, 2000000, Integer.MAX_VALUE}) {
            Check.refuses("cash " + wrong, WithdrawTest::rich, house -> house.withdraw(0, CASH, wrong));
            Check.refuses("fund " + wrong, WithdrawTest::rich, house -> house.withdraw(0, FUND, wrong));
        }
    }

    private static void takesTheEdges() {
        Check.sentence("1 <= amount <= MAX_AMOUNT");
        ClearingHouse house = rich();
        Check.does("least cash", house, it -> it.withdraw(0, CASH, 1), "cash 0", 2999999);
        Check.does("greatest cash", house, it -> it.withdraw(0, CASH, 1000000), "cash 0", 1999999);
        Check.does("least fund", house, it -> it.withdraw(0, FUND, 1), "fund 0", 2999999);
        Check.does("greatest fund", house, it -> it.withdraw(0, FUND, 1000000), "fund 0", 1999999);
    }

    private static ClearingHouse richAuction() {
        ClearingHouse house = Scene.auction(3, 0, 100, 100, 100);
        Scene.pay(house, 2, CASH, 1000);
        return house;
    }

    private static void waitsForTheAuction() {
        Check.sentence("phase is NORMAL; then");
        for (int m = 0; m < 3; m++) {
            int member = m;
            Check.refuses("cash of " + m, WithdrawTest::richAuction, house -> house.withdraw(member, CASH, 1));
            Check.refuses("fund of " + m, WithdrawTest::richAuction, house -> house.withdraw(member, FUND, 1));
        }
        ClearingHouse house = richAuction();
        Check.yes("bid", house.bid(2, 1000000));
        Check.yes("close", house.closeAuction());
        Check.does("cash after it", house, it -> it.withdraw(1, CASH, 1), "cash 1", 7999);
        Check.does("fund after it", house, it -> it.withdraw(2, FUND, 1), "fund 2", 99);
    }

    /** Member 0 has given its position away again, so that its call is all that stands in the way. */
    private static ClearingHouse calledForOne() {
        ClearingHouse house = Scene.called(3, 0);
        Check.yes("all but one", house.deposit(0, CASH, 8399));
        Check.yes("trade", house.trade(1, 0, 0, 100));
        Check.reads(house, "cash 0", 399, "margin 0", 0, "call 0", 1);
        return house;
    }

    private static void keepsCashWhileCalled() {
        Check.sentence("for CASH: call(member) == 0 and cash(member) - amount >= IM(member);");
        Check.refuses("a call of 1", WithdrawTest::calledForOne, house -> house.withdraw(0, CASH, 1));
        ClearingHouse house = calledForOne();
        Check.number("callMargins", 0, house.callMargins());
        Check.does("the call gone", house, it -> it.withdraw(0, CASH, 399), "cash 0", 0);
        house = calledForOne();
        Check.does("another's call does not matter", house, it -> it.withdraw(1, CASH, 8000), "cash 1", 0);
    }

    /** Member 0 has cash 3000 and margin 2000. */
    private static ClearingHouse margined() {
        ClearingHouse house = new ClearingHouse(2, 1, 0, 10);
        Scene.pay(house, 0, CASH, 3000);
        Check.yes("trade", house.trade(0, 1, 0, 100));
        Check.reads(house, "margin 0", 2000);
        return house;
    }

    private static void keepsTheMarginInCash() {
        Check.sentence("cash(member) - amount >= IM(member);");
        Check.refuses("one too much", WithdrawTest::margined, house -> house.withdraw(0, CASH, 1001));
        Check.refuses("all of it", WithdrawTest::margined, house -> house.withdraw(0, CASH, 3000));
        Check.refuses("more than there is", WithdrawTest::margined, house -> house.withdraw(0, CASH, 3001));
        Check.does("one less", margined(), it -> it.withdraw(0, CASH, 999), "cash 0", 2001);
        ClearingHouse house = margined();
        Check.does("down to the margin", house, it -> it.withdraw(0, CASH, 1000), "cash 0", 2000);
        Check.due("one more", false, house.withdraw(0, CASH, 1));
    }

    private static void emptiesCashWithoutMargin() {
        Check.sentence("cash(member) - amount >= IM(member);");
        ClearingHouse house = Scene.funded(2, 0, 50, 50);
        Check.yes("deposit", house.deposit(0, CASH, 7));
        Check.due("one too much", false, house.withdraw(0, CASH, 8));
        Check.does("all", house, it -> it.withdraw(0, CASH, 7), "cash 0", 0);
        Check.due("of an empty account", false, house.withdraw(0, CASH, 1));
    }

    /** Member 0 has lost 80 and holds nothing any more, nobody is called. */
    private static ClearingHouse indebted() {
        ClearingHouse house = Scene.funded(2, 0, 50, 50);
        Check.yes("trade", house.trade(0, 1, 0, 1));
        Check.yes("quote", house.quote(0, 20));
        Check.yes("trade", house.trade(1, 0, 0, 1));
        Check.reads(house, "cash 0", -80, "margin 0", 0, "call 0", 0);
        return house;
    }

    private static void paysNothingOutOfDebt() {
        Check.sentence("cash(member) - amount >= IM(member);");
        Check.refuses("cash below 0", WithdrawTest::indebted, house -> house.withdraw(0, CASH, 1));
        Check.does("the fund, with cash below 0", indebted(), it -> it.withdraw(0, FUND, 50), "fund 0", 0);
    }

    private static void takesTheMarginOfTheMoment() {
        Check.sentence("IM(m) always uses the positions and settlement prices of the moment it is needed,"
            + " for any status.");
        ClearingHouse house = margined();
        Check.yes("quote", house.quote(0, 200));
        Check.does("after a quote", house, it -> it.withdraw(0, CASH, 1000), "cash 0", 2000);
        Check.yes("settle", house.settle());
        Check.reads(house, "cash 0", 12000, "margin 0", 4000);
        Check.due("one too much after a settle", false, house.withdraw(0, CASH, 8001));
        Check.does("down to the new margin", house, it -> it.withdraw(0, CASH, 8000), "cash 0", 4000);
        Check.yes("trade", house.trade(1, 0, 0, 50));
        Check.due("one too much after a trade", false, house.withdraw(0, CASH, 2001));
        Check.does("down to the margin of the rest", house, it -> it.withdraw(0, CASH, 2000), "cash 0", 2000);
    }

    private static void emptiesTheFund() {
        Check.sentence("for FUND: fund(member) >= amount.");
        Check.refuses("one too much", () -> Scene.funded(2, 0, 500, 600), house -> house.withdraw(0, FUND, 501));
        Check.refuses("of an empty fund", () -> Scene.funded(2, 0, 500), house -> house.withdraw(1, FUND, 1));
        ClearingHouse house = Scene.funded(2, 0, 500, 600);
        Check.does("all but one", house, it -> it.withdraw(0, FUND, 499), "fund 0", 1);
        Check.does("the last one", house, it -> it.withdraw(0, FUND, 1), "fund 0", 0);
        Check.does("all at once", house, it -> it.withdraw(1, FUND, 600), "fund 1", 0);
    }

    private static void fundIsNotHeldByTheCall() {
        Check.sentence("for FUND: fund(member) >= amount.");
        ClearingHouse house = Scene.called(3, 0, 700);
        Check.does("a called member", house, it -> it.withdraw(0, FUND, 700), "fund 0", 0);
        Check.due("and no more", false, house.withdraw(0, FUND, 1));
    }

    private static void paysMembersInDefault() {
        Check.sentence("Allowed for ACTIVE and DEFAULTED members alike.");
        ClearingHouse house = Scene.auction(3, 0, 9000);
        Check.yes("bid", house.bid(2, 8100));
        Check.yes("close", house.closeAuction());
        Check.reads(house, "status 0", ClearingHouse.DEFAULTED, "cash 0", 100, "fund 0", 9000);
        Check.due("one too much cash", false, house.withdraw(0, CASH, 101));
        Check.due("one too much fund", false, house.withdraw(0, FUND, 9001));
        Check.does("all cash", house, it -> it.withdraw(0, CASH, 100), "cash 0", 0);
        Check.does("all fund", house, it -> it.withdraw(0, FUND, 9000), "fund 0", 0);
        Check.due("no cash is left", false, house.withdraw(0, CASH, 1));
        Check.due("no fund is left", false, house.withdraw(0, FUND, 1));
    }

    private static void leavesAllElse() {
        Check.sentence("The call, the other account, positions, prices, house capital and the waterfall record are"
            + " unchanged.");
        ClearingHouse house = Scene.closed(4, 9000, 10, 20, 30, 40);
        Check.yes("quote", house.quote(0, 19));
        Check.yes("trade", house.trade(3, 2, 1, 1));
        Check.number("calls", 2, house.callMargins());
        Check.does("cash", house, it -> it.withdraw(1, CASH, 9), "cash 1", 7991);
        Check.does("fund", house, it -> it.withdraw(1, FUND, 9), "fund 1", 11);
        Check.does("fund of a called member", house, it -> it.withdraw(3, FUND, 9), "fund 3", 31);
    }
}
