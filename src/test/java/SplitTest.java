import java.math.BigInteger;
import java.util.Arrays;

/**
 * Survivors and the pro-rata split, seen through closeAuction: with no bid it splits the quantity of each instrument
 * that the defaulter holds, and the loss that reaches the survivors' funds.
 */
public final class SplitTest {
    private static final int FUND = ClearingHouse.FUND;

    private SplitTest() { }

    public static void main(String[] args) {
        leavesTheDefaulterOut();
        leavesEarlierDefaultersOut();
        splitsAnewEachTime();
        splitsNoMoreWhenTheFundsAreGone();
        chargesAnewEachTime();
        splitsNothingWithoutFunds();
        splitsZeroAndOne();
        roundsPartsDown();
        leavesNothingOver();
        leavesAllButOneOver();
        givesTheRestInIndexOrder();
        passesOverMembersWithoutFunds();
        givesAnEvenPartAUnitMore();
        splitsPastInt();
        splitsPast64Bits();
        splitsToTheLastUnit();
        Check.finish();
    }

    /** The amount is split three times: as a long position, as a short one and as a loss. Due: members 1, 2, .. */
    private static void splits(int amount, int[] funds, int... due) {
        String what = amount + " over " + Arrays.toString(funds) + ": ";
        allocates(1, amount, funds, what, due);
        allocates(-1, amount, funds, what, due);
        charges(amount, funds, what, due);
    }

    /** Member 0 fails with this amount of instrument 1, long or short by the sign, and no bid. */
    private static void allocates(int sign, int amount, int[] funds, String what, int... due) {
        ClearingHouse house = Scene.called(funds.length + 1, 8000);
        for (int j = 0; j < funds.length; j++) {
            Scene.pay(house, j + 1, FUND, funds[j]);
        }
        Scene.build(house, 0, 1, 1, sign * amount);
        Check.yes("default", house.declareDefault(0));
        Check.yes("close", house.closeAuction());
        for (int j = 0; j < funds.length; j++) {
            int own = j == 0 ? -sign * amount : 0;
            Check.number(what + "quantity of " + (j + 1), sign * due[j], house.getPosition(j + 1, 1) - own);
            Check.number(what + "no fund is charged", funds[j], house.getBalance(j + 1, FUND));
        }
        Check.reads(house, "position 0 1", 0);
    }

    /** The same parts, of a loss: the bidder asks for the amount, and the house has paid the 8000 before it. */
    private static void charges(int amount, int[] funds, String what, int... due) {
        ClearingHouse house = Scene.auction(funds.length + 1, 8000);
        long total = 0;
        for (int j = 0; j < funds.length; j++) {
            Scene.pay(house, j + 1, FUND, funds[j]);
            total += funds[j];
        }
        if (amount >= total) {
            return;
        }
        Check.yes("bid", house.bid(1, -amount));
        Check.yes("close", house.closeAuction());
        for (int j = 0; j < funds.length; j++) {
            Check.number(what + "charge of " + (j + 1), due[j], funds[j] - house.getBalance(j + 1, FUND));
        }
        Check.reads(house, "layer 3", amount, "layer 4", 0, "house", 0);
    }

    private static void leavesTheDefaulterOut() {
        Check.sentence("**Survivors** are the members whose status is ACTIVE.");
        ClearingHouse house = Scene.bothCalled(4, 0, 1000, 1, 1, 3);
        Check.yes("default", house.declareDefault(0));
        Check.yes("close", house.closeAuction());
        Check.reads(house, "position 0 0", 0, "position 1 0", -5 + 1, "position 2 0", 1, "position 3 0", 3);
    }

    /** Member 0 has defaulted with a fund of 1000 that neither counts nor bears anything when member 1 fails. */
    private static void leavesEarlierDefaultersOut() {
        Check.sentence("F is the sum of the survivors' FUND balances.");
        ClearingHouse house = Scene.funded(4, 0, 1000, 0, 10, 30);
        Check.yes("trade", house.trade(0, 1, 0, 1));
        Check.number("calls", 2, house.callMargins());
        Check.yes("default", house.declareDefault(0));
        Check.yes("bid", house.bid(1, 0));
        Check.yes("close", house.closeAuction());
        Check.yes("trade", house.trade(1, 2, 0, 4));
        Check.yes("quote", house.quote(0, 95));
        Check.yes("settle", house.settle());
        Check.number("calls", 2, house.callMargins());
        Check.yes("default", house.declareDefault(1));
        Check.yes("close", house.closeAuction());
        Check.reads(house, "position 0 0", 0, "position 1 0", 0, "position 2 0", -4 + 1, "position 3 0", 3);
        Check.reads(house, "fund 0", 1000, "fund 2", 5, "fund 3", 15, "layer 0", 20, "layer 3", 20, "house", 0);
        house = Scene.closed(3, 8000, 500, 0, 0);
        Check.yes("trade", house.trade(2, 1, 1, 7));
        Check.number("calls", 1, house.callMargins());
        Check.yes("default", house.declareDefault(2));
        Check.yes("only the funds of others are left", house.closeAuction());
        Check.reads(house, "position 1 1", 0, "position 0 1", 0);
    }

    /** Members 3, 2, 1 and 0 fail one after the other: no part of an earlier split comes back in a later one. */
    private static void splitsAnewEachTime() {
        Check.sentence("**Survivors** are the members whose status is ACTIVE.");
        ClearingHouse house = Scene.funded(5, 0, 1, 1, 1, 1, 1);
        for (int m = 0; m < 4; m++) {
            Check.yes("trade", house.trade(m, 4, 0, 12));
        }
        Check.number("calls", 5, house.callMargins());
        int[][] due = {{15, 15, 15, 0, -45}, {20, 20, 0, 0, -40}, {30, 0, 0, 0, -30}, {0, 0, 0, 0, 0}};
        for (int n = 0; n < 4; n++) {
            if (n == 3) {
                Check.yes("the last has no fund any more", house.withdraw(4, FUND, 1));
            }
            Check.yes("default", house.declareDefault(3 - n));
            Check.yes("close", house.closeAuction());
            for (int m = 0; m < 5; m++) {
                Check.reads(house, "position " + m + " 0", due[n][m], "fund " + m, m == 4 && n == 3 ? 0 : 1);
            }
        }
    }

    /** Member 3 fails while there are funds, and its loss takes them all; when 2 and 1 fail, the first takes all. */
    private static void splitsNoMoreWhenTheFundsAreGone() {
        Check.sentence("weighted by their FUND balances f(j), used only when F > 0:");
        ClearingHouse house = Scene.funded(5, 0, 1, 1, 1, 1, 1);
        for (int m = 0; m < 4; m++) {
            Check.yes("trade", house.trade(m, 4, 1, 12));
        }
        Check.yes("quote", house.quote(1, 99));
        Check.yes("settle", house.settle());
        Check.number("calls", 5, house.callMargins());
        int[][] due = {{15, 15, 15, 0, -45}, {30, 15, 0, 0, -45}, {45, 0, 0, 0, -45}};
        for (int n = 0; n < 3; n++) {
            Check.yes("default", house.declareDefault(3 - n));
            Check.yes("close", house.closeAuction());
            for (int m = 0; m < 5; m++) {
                Check.reads(house, "position " + m + " 0", 0, "position " + m + " 1", due[n][m], "fund " + m, 0);
            }
            Check.reads(house, "layer 1", n == 0 ? 1 : 0, "layer 3", n == 0 ? 4 : 0, "layer 4", n == 0 ? 7 : 12);
        }
    }

    /** Member 2 bears a part of the loss of 3; when it fails itself, without a loss, it bears nothing more. */
    private static void chargesAnewEachTime() {
        Check.sentence("**Survivors** are the members whose status is ACTIVE.");
        ClearingHouse house = Scene.funded(4, 0, 90, 90, 90);
        Check.yes("trade", house.trade(2, 3, 0, 1));
        Check.number("calls", 2, house.callMargins());
        Check.yes("default", house.declareDefault(3));
        Check.yes("bid", house.bid(0, -30));
        Check.yes("close", house.closeAuction());
        Check.reads(house, "fund 0", 80, "fund 1", 80, "fund 2", 80, "layer 3", 30);
        Check.yes("default", house.declareDefault(2));
        Check.yes("bid", house.bid(1, 0));
        Check.yes("close", house.closeAuction());
        Check.reads(house, "fund 0", 80, "fund 1", 80, "fund 2", 80, "layer 3", 0);
    }

    private static void splitsNothingWithoutFunds() {
        Check.sentence("weighted by their FUND balances f(j), used only when F > 0:");
        ClearingHouse house = Scene.auction(3, 0, 0, 0, 0);
        Check.yes("close", house.closeAuction());
        Check.reads(house, "position 1 0", 0, "position 2 0", 0, "layer 3", 0, "layer 4", 8000);
        house = Scene.auction(3, 8000, 9, 0, 0);
        Check.yes("no loss is left for the funds", house.closeAuction());
        Check.reads(house, "layer 1", 9, "layer 2", 7991, "layer 3", 0, "layer 4", 0);
    }

    private static void splitsZeroAndOne() {
        Check.sentence("**Pro-rata split** of a whole number A >= 0 over the survivors");
        splits(0, new int[] {5, 6, 7}, 0, 0, 0);
        splits(1, new int[] {5, 6, 7}, 1, 0, 0);
        splits(1, new int[] {0, 1, 999999}, 0, 1, 0);
        splits(1, new int[] {0, 0, 2}, 0, 0, 1);
    }

    private static void roundsPartsDown() {
        Check.sentence("survivor j first gets floor(A * f(j) / F);");
        splits(100, new int[] {199, 1, 1}, 100, 0, 0);
        splits(100, new int[] {1, 199, 1}, 1, 99, 0);
        splits(1000, new int[] {1, 1, 998}, 1, 1, 998);
        splits(999, new int[] {1, 1, 998}, 1, 1, 997);
        splits(299, new int[] {100, 200, 1}, 100, 199, 0);
    }

    private static void leavesNothingOver() {
        Check.sentence("r units are left over (A minus the sum of those parts);");
        splits(10, new int[] {50, 30, 20}, 5, 3, 2);
        splits(7, new int[] {2, 2, 2, 2, 2, 2, 2}, 1, 1, 1, 1, 1, 1, 1);
        splits(9, new int[] {0, 10, 0}, 0, 9, 0);
    }

    /** With k equal funds, k - 1 units come out as k parts of 0 and k - 1 left over, the most there can be. */
    private static void leavesAllButOneOver() {
        Check.sentence("r is always fewer than the number of survivors with f(j) > 0;");
        for (int k = 2; k <= 7; k++) {
            int[] funds = new int[k];
            int[] due = new int[k];
            for (int j = 0; j < k; j++) {
                funds[j] = 1;
                due[j] = j < k - 1 ? 1 : 0;
            }
            splits(k - 1, funds, due);
            for (int j = 0; j < k; j++) {
                funds[j] = 1000;
                due[j] = j < k - 1 ? 101 : 100;
            }
            splits(101 * k - 1, funds, due);
        }
    }

    private static void givesTheRestInIndexOrder() {
        Check.sentence("the first r survivors in increasing index whose f(j) > 0 get one more unit each.");
        splits(100, new int[] {1, 1, 1}, 34, 33, 33);
        splits(101, new int[] {100, 100, 100}, 34, 34, 33);
        splits(2, new int[] {1, 1000000, 1000000}, 1, 1, 0);
        splits(10, new int[] {3, 5, 7, 11}, 2, 2, 2, 4);
    }

    private static void passesOverMembersWithoutFunds() {
        Check.sentence("the first r survivors in increasing index whose f(j) > 0 get one more unit each.");
        splits(100, new int[] {0, 7, 0, 4}, 0, 64, 0, 36);
        splits(2, new int[] {0, 1, 0, 1, 0, 1, 0}, 0, 1, 0, 1, 0, 0, 0);
        splits(8, new int[] {0, 0, 3, 3, 3}, 0, 0, 3, 3, 2);
    }

    /** 2 over 2, 1 and 1: one part comes out even and still gets the unit left over, being the first. */
    private static void givesAnEvenPartAUnitMore() {
        Check.sentence("the first r survivors in increasing index whose f(j) > 0 get one more unit each.");
        splits(2, new int[] {2, 1, 1}, 2, 0, 0);
        splits(2, new int[] {1, 1, 2}, 1, 0, 1);
    }

    private static void splitsPastInt() {
        Check.sentence("Products and sums of positions, prices and risk widths can exceed the int range.");
        splits(10000, new int[] {1000000, 1000000, 1000000}, 3334, 3333, 3333);
        splits(9999, new int[] {999999, 3000000, 1}, 2500, 7499, 0);
        splits(7001, new int[] {2000000000, 1000000000, 1000000000}, 3501, 1750, 1750);
    }

    /** A loss and funds whose product does not fit 64 bits: the parts are still the true floors. */
    private static void splitsPast64Bits() {
        Check.sentence("survivor j first gets floor(A * f(j) / F);");
        shares(2399876543L, 2499753086L, 629629L);
        shares(3999876543L, 2499753086L, 629629L);
        shares(876543L, 8999753086L, 629629L);
        shares(8999876543L, 8999753086L, 8999629629L);
    }

    /** With these funds A * f(3) is one short of a multiple of F, so that the quotient looks whole unless it is exact. */
    private static void splitsToTheLastUnit() {
        Check.sentence("survivor j first gets floor(A * f(j) / F);");
        shares(2000000000L, 743539977L, 2256460030L);
        shares(300000000L, 290636254L, 5409363747L);
    }

    private static void shares(long... funds) {
        ClearingHouse house = new ClearingHouse(4, 4, 1, 10);
        long total = 0;
        for (int j = 0; j < 3; j++) {
            total += funds[j];
            Scene.pay(house, j + 1, FUND, funds[j]);
        }
        long shared = fails(house);
        long left = shared;
        for (int j = 0; j < 3; j++) {
            left -= floor(shared, funds[j], total);
        }
        for (int j = 0; j < 3; j++) {
            long due = funds[j] - floor(shared, funds[j], total) - (j < left ? 1 : 0);
            Check.number("fund " + (j + 1), due, house.getBalance(j + 1, FUND));
        }
    }

    /** Member 0 loses 3,996,000,000, of which the house pays 1. Answers the rest, that the survivors share. */
    private static long fails(ClearingHouse house) {
        for (int i = 0; i < 4; i++) {
            Scene.build(house, 1, 0, i, 10000);
            Check.yes("quote", house.quote(i, 100000));
        }
        Check.yes("settle", house.settle());
        Check.yes("calls", house.callMargins() > 0);
        Check.yes("default", house.declareDefault(0));
        Check.yes("bid", house.bid(1, 0));
        Check.yes("close", house.closeAuction());
        Check.reads(house, "layer 0", 3996000000L, "layer 2", 1, "layer 3", 3995999999L, "layer 4", 0, "cash 0", 0);
        return 3995999999L;
    }

    private static long floor(long amount, long weight, long total) {
        BigInteger product = BigInteger.valueOf(amount).multiply(BigInteger.valueOf(weight));
        return product.divide(BigInteger.valueOf(total)).longValueExact();
    }
}
