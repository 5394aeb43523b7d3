/** Promise 2: deposit. */
public final class DepositTest {
    private static final int CASH = ClearingHouse.CASH;
    private static final int FUND = ClearingHouse.FUND;

    private DepositTest() { }

    public static void main(String[] args) {
        refusesWrongMembers();
        refusesWrongAccounts();
        refusesTooLittle();
        refusesTooMuch();
        takesTheEdges();
        refusesMembersInDefault();
        goesOnInEitherPhase();
        raisesOneBalance();
        lowersTheCallDownToZero();
        lowersTheCallByTheAmount();
        fundLeavesTheCall();
        leavesBidsAlone();
        leavesTheRecordAlone();
        Check.finish();
    }

    private static ClearingHouse plain() {
        ClearingHouse house = Scene.funded(3, 500, 5, 6, 7);
        Check.yes("deposit", house.deposit(0, CASH, 10));
        return house;
    }

    private static void refusesWrongMembers() {
        Check.sentence("Tests, in order: member valid; account is CASH or FUND; 1 <= amount <= MAX_AMOUNT;"
            + " status(member) is ACTIVE.");
        for (int account = 0; account < 2; account++) {
            int given = account;
            Check.refuses("member 3 of 3", DepositTest::plain, house -> house.deposit(3, given, 5));
            for (int wrong : Check.WRONG_INDEXES) {
                Check.refuses("member " + wrong, DepositTest::plain, house -> house.deposit(wrong, given, 5));
            }
        }
    }

    private static void refusesWrongAccounts() {
        Check.sentence("account is CASH or FUND");
        Check.refuses("account 2", DepositTest::plain, house -> house.deposit(0, 2, 5));
        for (int wrong : Check.WRONG_INDEXES) {
            Check.refuses("account " + wrong, DepositTest::plain, house -> house.deposit(0, wrong, 5));
        }
    }

    private static void refusesTooLittle() {
        Check.sentence("1 <= amount");
        for (int wrong : new int[] {0, -1, -1000000, Integer.MIN_VALUE, Integer.MIN_VALUE + 1}) {
            Check.refuses("cash " + wrong, DepositTest::plain, house -> house.deposit(0, CASH, wrong));
            Check.refuses("fund " + wrong, DepositTest::plain, house -> house.deposit(0, FUND, wrong));
        }
    }

    private static void refusesTooMuch() {
        Check.sentence("amount <= MAX_AMOUNT");
        for (int wrong : new int[] {1000001, 2000000, Integer.MAX_VALUE}) {
            Check.refuses("cash " + wrong, DepositTest::plain, house -> house.deposit(0, CASH, wrong));
            Check.refuses("fund " + wrong, DepositTest::plain, house -> house.deposit(0, FUND, wrong));
        }
    }

    private static void takesTheEdges() {
        Check.sentence("1 <= amount <= MAX_AMOUNT");
        ClearingHouse house = plain();
        Check.does("least cash", house, it -> it.deposit(0, CASH, 1), "cash 0", 11);
        Check.does("greatest cash", house, it -> it.deposit(0, CASH, 1000000), "cash 0", 1000011);
        Check.does("least fund", house, it -> it.deposit(2, FUND, 1), "fund 2", 8);
        Check.does("greatest fund", house, it -> it.deposit(2, FUND, 1000000), "fund 2", 1000008);
    }

    private static void refusesMembersInDefault() {
        Check.sentence("status(member) is ACTIVE.");
        Check.refuses("cash while DEFAULTING", () -> Scene.auction(3, 0), house -> house.deposit(0, CASH, 5));
        Check.refuses("fund while DEFAULTING", () -> Scene.auction(3, 0), house -> house.deposit(0, FUND, 5));
        Check.refuses("cash when DEFAULTED", () -> Scene.closed(3, 0), house -> house.deposit(0, CASH, 5));
        Check.refuses("fund when DEFAULTED", () -> Scene.closed(3, 0), house -> house.deposit(0, FUND, 5));
    }

    private static void goesOnInEitherPhase() {
        Check.sentence("Deposits are allowed in either phase.");
        ClearingHouse house = Scene.bothCalled(3, 0);
        Check.does("cash in NORMAL", house, it -> it.deposit(2, CASH, 11), "cash 2", 11);
        Check.yes("default", house.declareDefault(0));
        Check.does("cash in AUCTION", house, it -> it.deposit(2, CASH, 11), "cash 2", 22);
        Check.does("fund in AUCTION", house, it -> it.deposit(2, FUND, 12), "fund 2", 12);
        Check.does("cash against a call in AUCTION", house, it -> it.deposit(1, CASH, 99), "cash 1", 99, "call 1", 1);
        Check.yes("close", house.closeAuction());
        Check.does("cash in NORMAL again", house, it -> it.deposit(2, CASH, 1), "cash 2", 23);
    }

    private static void raisesOneBalance() {
        Check.sentence("Nothing else changes: no other account, member, position, price, bid, house capital or"
            + " waterfall layer.");
        ClearingHouse house = Scene.called(8, 60, 1, 2, 3, 4, 5, 6, 7, 8);
        for (int m = 1; m < 8; m++) {
            int member = m;
            long cash = house.getBalance(m, CASH);
            Check.does("cash", house, it -> it.deposit(member, CASH, 70 + member), "cash " + m, cash + 70 + m);
            Check.does("fund", house, it -> it.deposit(member, FUND, 90 + member), "fund " + m, 1 + m + 90 + m);
        }
    }

    private static void lowersTheCallDownToZero() {
        Check.sentence("call := call - min(call, amount), so it never goes below 0.");
        int[][] cases = {{1, 8399}, {8399, 1}, {8400, 0}, {8401, 0}, {16801, 0}, {1000000, 0}};
        for (int[] given : cases) {
            Check.does("cash " + given[0], Scene.called(3, 0), it -> it.deposit(0, CASH, given[0]),
                "cash 0", -8000 + given[0], "call 0", given[1]);
        }
        ClearingHouse house = Scene.called(3, 0);
        Check.does("no call", house, it -> it.deposit(2, CASH, 5), "cash 2", 5);
        Check.does("a part", house, it -> it.deposit(0, CASH, 400), "cash 0", -7600, "call 0", 8000);
        Check.does("more than the rest", house, it -> it.deposit(0, CASH, 8001), "cash 0", 401, "call 0", 0);
    }

    /** The call is not worked out anew, although the margin and the cash have moved since it was issued. */
    private static void lowersTheCallByTheAmount() {
        Check.sentence("If the account is CASH, the call also decreases");
        ClearingHouse house = Scene.called(3, 0);
        Check.yes("quote", house.quote(0, 500));
        Check.yes("settle", house.settle());
        Check.reads(house, "cash 0", 40000, "margin 0", 10000, "call 0", 8400);
        Check.does("cash", house, it -> it.deposit(0, CASH, 100), "cash 0", 40100, "call 0", 8300);
        Check.does("the other, who is not called", house, it -> it.deposit(1, CASH, 100), "cash 1", -39900);
    }

    private static void fundLeavesTheCall() {
        Check.sentence("A FUND deposit leaves the call unchanged.");
        ClearingHouse house = Scene.called(3, 0);
        Check.does("below the call", house, it -> it.deposit(0, FUND, 9), "fund 0", 9);
        Check.does("the call", house, it -> it.deposit(0, FUND, 8400), "fund 0", 8409);
        Check.does("above the call", house, it -> it.deposit(0, FUND, 1000000), "fund 0", 1008409);
    }

    private static void leavesBidsAlone() {
        Check.sentence("Nothing else changes: no other account, member, position, price, bid, house capital or"
            + " waterfall layer.");
        ClearingHouse house = Scene.auctionWithBids();
        Check.yes("cash of the highest bidder", house.deposit(2, CASH, 1));
        Check.yes("cash of another bidder", house.deposit(3, CASH, 999));
        Check.yes("fund of one who has not bid", house.deposit(1, FUND, 999));
        Check.yes("close", house.closeAuction());
        Check.reads(house, "layer 5", 2, "layer 6", 30);
    }

    private static void leavesTheRecordAlone() {
        Check.sentence("Nothing else changes: no other account, member, position, price, bid, house capital or"
            + " waterfall layer.");
        ClearingHouse house = Scene.closed(3, 1000, 10, 20, 30);
        Check.reads(house, "layer 0", 8000, "layer 1", 10, "layer 2", 1000, "layer 3", 50, "layer 4", 6940);
        Check.does("cash", house, it -> it.deposit(1, CASH, 1), "cash 1", 8001);
        Check.does("fund", house, it -> it.deposit(2, FUND, 1), "fund 2", 1);
    }
}
