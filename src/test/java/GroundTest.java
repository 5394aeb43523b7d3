import java.util.List;
import java.util.Map;
import java.util.TreeMap;
import java.util.function.Predicate;
import java.util.function.Supplier;

/** What the document says of the state as a whole: indexes, signs, the phase, refused calls, and 64-bit numbers. */
public final class GroundTest {
    private static final int CASH = ClearingHouse.CASH;
    private static final int FUND = ClearingHouse.FUND;
    private static final long TWO_32 = 1L << 32;

    private GroundTest() { }

    public static void main(String[] args) {
        knowsItsMembers();
        knowsItsInstruments();
        letsCashGoBelowZero();
        keepsFundsAtZeroOrAbove();
        keepsCallsAtZeroOrAbove();
        keepsOneBidEach();
        letsTheHouseGoBelowZero();
        hasOneDefaulterAtMost();
        isInAuctionWhileOneDefaults();
        refusesInTheNormalPhase();
        refusesInTheAuctionPhase();
        refusesAfterADefault();
        countsMoneyPastInt();
        countsCallsPastInt();
        withdrawsPastInt();
        settlesPastInt();
        settlesOneProductPastInt();
        requiresMarginPastInt();
        chargesPastInt();
        Check.finish();
    }

    private static void knowsItsMembers() {
        Check.sentence("Members are 0..M-1 and instruments are 0..N-1. Every other index is invalid.");
        for (int members = 2; members <= 8; members++) {
            ClearingHouse house = new ClearingHouse(members, 1, 0, 10);
            for (int m = 0; m < members; m++) {
                Check.yes("cash", house.deposit(m, CASH, 1 + m));
                Check.yes("fund", house.deposit(m, FUND, 10 + m));
                Check.yes("trade", house.trade(m, (m + 1) % members, 0, 1 + m));
            }
            for (int m = -2; m <= 20; m++) {
                if (m < 0 || m >= members) {
                    isNobody(house, m);
                }
            }
            for (int m : Check.WRONG_INDEXES) {
                isNobody(house, m);
            }
            for (int m = 0; m < members; m++) {
                Check.reads(house, "cash " + m, 1 + m, "fund " + m, 10 + m);
            }
        }
    }

    private static void isNobody(ClearingHouse house, int m) {
        Map<String, Long> before = State.of(house);
        Check.due("deposit of " + m, false, house.deposit(m, CASH, 1) || house.deposit(m, FUND, 1));
        Check.due("withdraw of " + m, false, house.withdraw(m, CASH, 1) || house.withdraw(m, FUND, 1));
        Check.due("trade of " + m, false, house.trade(m, 0, 0, 1) || house.trade(0, m, 0, 1));
        Check.due("default of " + m, false, house.declareDefault(m));
        Check.due("bid of " + m, false, house.bid(m, 1));
        Check.number("cash of " + m, 0, house.getBalance(m, CASH));
        Check.number("fund of " + m, 0, house.getBalance(m, FUND));
        Check.number("position of " + m, 0, house.getPosition(m, 0));
        Check.number("requirement of " + m, 0, house.getMargin(m, ClearingHouse.REQUIREMENT));
        Check.number("call of " + m, 0, house.getMargin(m, ClearingHouse.CALL));
        Check.number("status of " + m, -1, house.getStatus(m));
        Check.due("the state after all this", before, State.of(house));
    }

    private static void knowsItsInstruments() {
        Check.sentence("Members are 0..M-1 and instruments are 0..N-1. Every other index is invalid.");
        for (int instruments = 1; instruments <= 4; instruments++) {
            ClearingHouse house = new ClearingHouse(8, instruments, 0, 10);
            for (int i = 0; i < instruments; i++) {
                Check.yes("trade", house.trade(3, 2, i, 1 + i));
                Check.yes("quote", house.quote(i, 200 + i));
            }
            for (int i = -2; i <= 40; i++) {
                if (i < 0 || i >= instruments) {
                    isNothing(house, i);
                }
            }
            for (int i : Check.WRONG_INDEXES) {
                isNothing(house, i);
            }
            for (int i = 0; i < instruments; i++) {
                Check.reads(house, "price " + i, 200 + i, "position 3 " + i, 1 + i, "position 2 " + i, -1 - i);
            }
        }
    }

    private static void isNothing(ClearingHouse house, int i) {
        Map<String, Long> before = State.of(house);
        Check.due("quote of " + i, false, house.quote(i, 50));
        Check.due("trade of " + i, false, house.trade(3, 2, i, 1));
        for (int m = 0; m < 8; m++) {
            Check.number("position in " + i, 0, house.getPosition(m, i));
        }
        Check.number("current price of " + i, 0, house.getPrice(i, ClearingHouse.CURRENT));
        Check.number("settlement price of " + i, 0, house.getPrice(i, ClearingHouse.SETTLEMENT));
        Check.due("the state after all this", before, State.of(house));
    }

    private static void letsCashGoBelowZero() {
        Check.sentence("both signed 64-bit (CASH may be negative, FUND never is);");
        ClearingHouse house = Scene.funded(3, 0, 1, 1, 1);
        Check.yes("quote", house.quote(0, 101));
        Check.yes("by a trade", house.trade(0, 1, 0, 1));
        Check.reads(house, "cash 0", -1, "cash 1", 1);
        Check.yes("settle", house.settle());
        Check.reads(house, "cash 0", 0, "cash 1", 0);
        Check.yes("quote", house.quote(0, 102));
        Check.yes("by a settle", house.settle());
        Check.reads(house, "cash 0", 1, "cash 1", -1);
        Check.number("calls", 2, house.callMargins());
        Check.yes("default", house.declareDefault(1));
        Check.yes("bid", house.bid(2, 3));
        Check.yes("by a bid that wins", house.closeAuction());
        Check.reads(house, "cash 2", -3, "cash 1", 2);
    }

    private static void keepsFundsAtZeroOrAbove() {
        Check.sentence("both signed 64-bit (CASH may be negative, FUND never is);");
        ClearingHouse house = Scene.funded(3, 0, 5);
        Check.due("more than there is", false, house.withdraw(0, FUND, 6));
        Check.yes("all", house.withdraw(0, FUND, 5));
        Check.due("of nothing", false, house.withdraw(0, FUND, 1));
        Check.reads(house, "fund 0", 0);
        for (int loss = 1; loss <= 12; loss++) {
            house = Scene.auction(8, 8000, 0, 1, 0, 2, 1, 3, 1, 2);
            Check.yes("bid", house.bid(1, -loss));
            Check.yes("close", house.closeAuction());
            long left = 0;
            for (int m = 0; m < 8; m++) {
                Check.yes("fund " + m + " after a loss of " + loss, house.getBalance(m, FUND) >= 0);
                left += house.getBalance(m, FUND);
            }
            Check.number("the funds left after a loss of " + loss, Math.max(0, 10 - loss), left);
        }
    }

    private static void keepsCallsAtZeroOrAbove() {
        Check.sentence("an outstanding margin call (the call), 64-bit and never negative;");
        ClearingHouse house = Scene.called(3, 0);
        Check.yes("more than the call", house.deposit(0, CASH, 8401));
        Check.reads(house, "call 0", 0);
        Check.yes("with no call", house.deposit(0, CASH, 1));
        Check.reads(house, "call 0", 0);
        Check.number("more than the margin", 0, house.callMargins());
        Check.reads(house, "call 0", 0, "call 1", 0);
    }

    private static void keepsOneBidEach() {
        Check.sentence("at most one auction bid.");
        ClearingHouse house = Scene.auctionWithBids();
        Check.yes("the highest bidder bids less than the other", house.bid(2, 10));
        Check.yes("close", house.closeAuction());
        Check.reads(house, "layer 5", 3, "layer 6", 20);
    }

    private static void letsTheHouseGoBelowZero() {
        Check.sentence("The house has a capital, signed 64-bit, which may become negative.");
        ClearingHouse house = Scene.closed(3, 7999);
        Check.reads(house, "house", -1);
        Check.yes("trade", house.trade(1, 2, 0, 1));
        Check.yes("settle", house.settle());
        Check.reads(house, "house", -1);
    }

    private static void hasOneDefaulterAtMost() {
        Check.sentence("The PHASE is AUCTION while some member is DEFAULTING (never more than one);");
        ClearingHouse house = new ClearingHouse(8, 1, 0, 10);
        for (int m = 0; m < 8; m += 2) {
            Check.yes("trade", house.trade(m, m + 1, 0, 1));
        }
        Check.number("calls", 8, house.callMargins());
        for (int d = 0; d < 7; d++) {
            Check.yes("default", house.declareDefault(d));
            for (int m = 0; m < 8; m++) {
                Check.due("another default", false, house.declareDefault(m));
                Check.reads(house, "status " + m, m < d ? 2 : m == d ? 1 : 0);
            }
            Check.yes("close", house.closeAuction());
        }
    }

    /** 1 for AUCTION, 0 for NORMAL, by the calls that only one of them lets through. */
    private static void isPhase(String what, int auction, Supplier<ClearingHouse> scene) {
        Check.due(what + ": settle", auction == 0, scene.get().settle());
        Check.due(what + ": callMargins", auction == 0, scene.get().callMargins() != -1);
        Check.due(what + ": trade", auction == 0, scene.get().trade(1, 2, 0, 1));
        Check.due(what + ": withdraw", auction == 0, scene.get().withdraw(2, FUND, 1));
        Check.due(what + ": bid", auction == 1, scene.get().bid(2, 0));
        Check.due(what + ": closeAuction", auction == 1, scene.get().closeAuction());
    }

    private static void isInAuctionWhileOneDefaults() {
        Check.sentence("otherwise it is NORMAL.");
        isPhase("at the start", 0, () -> Scene.funded(3, 9000, 1, 1, 1));
        isPhase("with a call out", 0, () -> Scene.called(3, 9000, 1, 1, 1));
        isPhase("with a defaulter", 1, () -> Scene.auction(3, 9000, 1, 1, 1));
        isPhase("with a DEFAULTED member", 0, () -> Scene.closed(3, 9000, 1, 1, 1));
    }

    private static void refuseAll(Supplier<ClearingHouse> scene, List<Predicate<ClearingHouse>> calls) {
        for (int n = 0; n < calls.size(); n++) {
            Check.refuses("call " + n, scene, calls.get(n));
        }
        Check.refuses("all of them in a row", scene, house -> {
            boolean any = false;
            for (Predicate<ClearingHouse> call : calls) {
                any |= call.test(house);
            }
            return any;
        });
    }

    private static void refusesInTheNormalPhase() {
        Check.sentence("A refused call answers false (or the stated refusal value) and changes nothing at all.");
        refuseAll(() -> Scene.called(4, 50, 1, 2, 3, 4), List.of(house -> house.deposit(4, CASH, 1),
            house -> house.deposit(0, 2, 1), house -> house.deposit(0, CASH, 0), house -> house.withdraw(0, CASH, 1),
            house -> house.withdraw(0, FUND, 2), house -> house.withdraw(-1, FUND, 1), house -> house.quote(0, 0),
            house -> house.quote(2, 5), house -> house.trade(0, 0, 0, 1), house -> house.trade(0, 1, 0, 1001),
            house -> house.trade(0, 1, 2, 1), house -> house.declareDefault(1), house -> house.declareDefault(4),
            house -> house.bid(2, 5), house -> house.bid(0, 5), house -> house.closeAuction()));
    }

    private static void refusesInTheAuctionPhase() {
        Check.sentence("A refused call answers false (or the stated refusal value) and changes nothing at all.");
        refuseAll(Scene::auctionWithBids, List.of(house -> house.deposit(0, CASH, 1), house -> house.deposit(0, FUND, 1),
            house -> house.withdraw(2, FUND, 1), house -> house.withdraw(0, FUND, 1), house -> house.quote(0, 100001),
            house -> house.trade(1, 2, 0, 1), house -> house.settle(), house -> house.callMargins() != -1,
            house -> house.declareDefault(0), house -> house.declareDefault(1), house -> house.bid(0, 900),
            house -> house.bid(4, 900), house -> house.bid(2, 1000001), house -> house.bid(2, -1000001),
            house -> house.bid(1, Integer.MIN_VALUE), house -> house.bid(3, Integer.MAX_VALUE)));
    }

    private static void refusesAfterADefault() {
        Check.sentence("A refused call answers false (or the stated refusal value) and changes nothing at all.");
        refuseAll(() -> Scene.closed(4, 50, 1, 2, 3, 4), List.of(house -> house.deposit(0, CASH, 1),
            house -> house.deposit(0, FUND, 1), house -> house.withdraw(0, CASH, 1), house -> house.withdraw(0, FUND, 1),
            house -> house.trade(0, 1, 0, 1), house -> house.trade(1, 0, 0, 1), house -> house.declareDefault(0),
            house -> house.declareDefault(1), house -> house.bid(1, 0), house -> house.closeAuction()));
    }

    private static void countsMoneyPastInt() {
        Check.sentence("every value stays below 2^62 in magnitude, so all arithmetic there is exact when carried out in"
            + " 64-bit (long).");
        ClearingHouse house = new ClearingHouse(2, 1, 0, 10);
        Scene.pay(house, 0, CASH, TWO_32 + 5);
        Scene.pay(house, 1, FUND, TWO_32 + 6);
        Check.reads(house, "cash 0", TWO_32 + 5, "fund 1", TWO_32 + 6);
    }

    /** Member 0 is called for 2^32 + 5: in 32 bits that would be 5. */
    private static void countsCallsPastInt() {
        Check.sentence("an outstanding margin call (the call), 64-bit and never negative;");
        ClearingHouse house = new ClearingHouse(2, 4, 0, 50);
        loseToTheGreatestPrices(house);
        Check.reads(house, "cash 0", -3996000000L, "margin 0", 4000000000L);
        Scene.pay(house, 0, CASH, 7996000000L - TWO_32 - 5);
        Check.does("callMargins", house, it -> it.callMargins() == 2, "call 0", TWO_32 + 5, "call 1", 4000000);
        long cash = house.getBalance(0, CASH);
        Check.does("a part", house, it -> it.deposit(0, CASH, 10), "call 0", TWO_32 - 5, "cash 0", cash + 10);
        Check.does("a part", house, it -> it.deposit(0, CASH, 999990), "call 0", TWO_32 + 5 - 1000000,
            "cash 0", cash + 1000000);
        Check.does("default", house, it -> it.declareDefault(0), "status 0", 1, "call 0", 0);
    }

    /** Member 0 sells 10000 of each of 4 instruments to member 1, and the prices go from 100 to 100000. */
    private static void loseToTheGreatestPrices(ClearingHouse house) {
        for (int i = 0; i < 4; i++) {
            Scene.build(house, 1, 0, i, 10000);
            Check.yes("quote", house.quote(i, 100000));
        }
        Check.yes("settle", house.settle());
    }

    private static void withdrawsPastInt() {
        Check.sentence("cash(member) - amount >= IM(member);");
        ClearingHouse house = new ClearingHouse(2, 4, 0, 50);
        Scene.pay(house, 0, CASH, TWO_32);
        Scene.pay(house, 0, FUND, TWO_32);
        Check.does("cash of 2^32", house, it -> it.withdraw(0, CASH, 1), "cash 0", TWO_32 - 1);
        Check.does("fund of 2^32", house, it -> it.withdraw(0, FUND, 1), "fund 0", TWO_32 - 1);
        loseToTheGreatestPrices(house);
        Check.reads(house, "cash 1", 3996000000L, "margin 1", 4000000000L);
        Check.due("cash below the margin, both past int", false, house.withdraw(1, CASH, 1));
        Scene.pay(house, 1, CASH, 4000001);
        Check.due("cash just above the margin, 2 of it", false, house.withdraw(1, CASH, 2));
        Check.does("cash just above the margin", house, it -> it.withdraw(1, CASH, 1), "cash 1", 4000000000L);
    }

    private static void settlesPastInt() {
        Check.sentence("Products and sums of positions, prices and risk widths can exceed the int range.");
        ClearingHouse house = new ClearingHouse(2, 4, 0, 10);
        loseToTheGreatestPrices(house);
        Check.reads(house, "cash 0", -4L * 10000 * 99900, "cash 1", 4L * 10000 * 99900);
        for (int i = 0; i < 4; i++) {
            Check.yes("quote", house.quote(i, 1));
        }
        Check.yes("settle", house.settle());
        Check.reads(house, "cash 0", 4L * 10000 * 99, "cash 1", -4L * 10000 * 99);
    }

    /** Members 0 to 3 are long to the limit and fail one after the other, until member 3 holds four times the limit. */
    private static ClearingHouse fourTimesTheLimit() {
        ClearingHouse house = new ClearingHouse(8, 1, 0, 50);
        for (int m = 0; m < 4; m++) {
            Scene.build(house, m, 7 - m, 0, 10000);
        }
        Check.number("calls", 8, house.callMargins());
        for (int m = 0; m < 3; m++) {
            Check.yes("default", house.declareDefault(m));
            Check.yes("bid", house.bid(m + 1, 0));
            Check.yes("close", house.closeAuction());
        }
        Check.reads(house, "position 3 0", 40000);
        return house;
    }

    private static void settlesOneProductPastInt() {
        Check.sentence("Products and sums of positions, prices and risk widths can exceed the int range.");
        ClearingHouse house = fourTimesTheLimit();
        Check.yes("quote", house.quote(0, 100000));
        Check.yes("settle", house.settle());
        Check.reads(house, "cash 3", 40000L * 99900, "cash 4", -10000L * 99900, "margin 3", 4000000000L);
        Check.number("calls", 5, house.callMargins());
        Check.reads(house, "call 3", 4000000, "call 4", 1000000000L + 999000000L);
    }

    private static void requiresMarginPastInt() {
        Check.sentence("Products and sums of positions, prices and risk widths can exceed the int range.");
        ClearingHouse house = new ClearingHouse(2, 4, 0, 50);
        loseToTheGreatestPrices(house);
        Check.reads(house, "margin 0", 4000000000L, "margin 1", 4000000000L);
        Check.number("calls", 2, house.callMargins());
        Check.reads(house, "call 0", 4000000000L + 3996000000L, "call 1", 4000000000L - 3996000000L);
    }

    /** Layers, funds and the house past int, on both sides of 0, and again on top of that. */
    private static void chargesPastInt() {
        Check.sentence("every value stays below 2^62 in magnitude, so all arithmetic there is exact when carried out in"
            + " 64-bit (long).");
        Map<String, Long> due = new TreeMap<>(Map.of("layer 0", 3996000000L, "layer 1", 0L, "layer 2", 0L,
            "layer 3", 0L, "layer 4", 3996000000L, "house", -3996000000L));
        charged(0, 0, due);
        due.putAll(Map.of("layer 1", 3000000000L, "layer 4", 996000000L, "house", -996000000L));
        charged(3000000000L, 0, due);
        due.putAll(Map.of("layer 1", 0L, "layer 3", 3500000000L, "layer 4", 496000000L, "house", -496000000L));
        charged(0, 3500000000L, due);
        due.putAll(Map.of("layer 1", 3996000000L, "layer 3", 0L, "layer 4", 0L, "house", 0L));
        charged(3996000001L, 3500000000L, due);
    }

    private static void charged(long ownFund, long otherFund, Map<String, Long> due) {
        ClearingHouse house = new ClearingHouse(3, 4, 0, 10);
        Scene.pay(house, 0, FUND, ownFund);
        Scene.pay(house, 1, FUND, otherFund - otherFund / 2);
        Scene.pay(house, 2, FUND, otherFund / 2);
        loseToTheGreatestPrices(house);
        Check.yes("calls", house.callMargins() > 0);
        Check.yes("default", house.declareDefault(0));
        Check.yes("bid", house.bid(1, 0));
        Check.yes("close", house.closeAuction());
        for (String key : due.keySet()) {
            Check.reads(house, key, due.get(key));
        }
        Check.reads(house, "fund 0", ownFund - due.get("layer 1"), "cash 0", 0);
        Check.number("the others' funds", otherFund - due.get("layer 3"),
            house.getBalance(1, FUND) + house.getBalance(2, FUND));
    }
}
