import java.util.function.Predicate;

/** The two lasting properties, summed up from the class alone after every call. */
public final class LastingTest {
    private static final int CASH = ClearingHouse.CASH;
    private static final int FUND = ClearingHouse.FUND;
    private static final int RUNS = 1500;
    private static final int CALLS = 500;

    private final ClearingHouse house;
    /** H + D - W. */
    private long due;
    private long seed;

    private LastingTest(int members, int instruments, int capital, int risk) {
        house = new ClearingHouse(members, instruments, capital, risk);
        due = Math.max(0, Math.min(1000000, capital));
    }

    public static void main(String[] args) {
        countsItsMembers();
        keepsSumsThroughASale();
        keepsSumsThroughForcedAllocation();
        keepsSumsThroughEveryRemainder();
        keepsSumsForAnyInts();
        Check.finish();
    }

    private static void countsItsMembers() {
        Check.sentence("M is the clamped member count, that is, exactly the members m with getStatus(m) != -1.");
        for (int members = -3; members <= 12; members++) {
            ClearingHouse house = new ClearingHouse(members, 4, 0, 10);
            int count = 0;
            for (int m = -1000; m <= 1000; m++) {
                count += house.getStatus(m) != -1 ? 1 : 0;
            }
            Check.number(members + " members", Math.max(2, Math.min(8, members)), count);
        }
    }

    private void holds(String after) {
        long money = house.getHouse();
        long[] positions = new long[4];
        for (int m = 0; house.getStatus(m) != -1; m++) {
            money += house.getBalance(m, CASH) + house.getBalance(m, FUND);
            for (int i = 0; i < 4; i++) {
                positions[i] += house.getPosition(m, i);
            }
        }
        Check.number("the sum of all money after " + after, due, money);
        for (int i = 0; i < 4; i++) {
            Check.number("the sum of positions in " + i + " after " + after, 0, positions[i]);
        }
    }

    private void pays(int member, int account, int amount) {
        if (house.deposit(member, account, amount)) {
            due += amount;
        }
        holds("deposit(" + member + ", " + account + ", " + amount + ")");
    }

    private void takes(int member, int account, int amount) {
        if (house.withdraw(member, account, amount)) {
            due -= amount;
        }
        holds("withdraw(" + member + ", " + account + ", " + amount + ")");
    }

    private void does(String what, Predicate<ClearingHouse> call) {
        Check.yes(what, call.test(house));
        holds(what);
    }

    /** Member 0 has lost 8000 in instrument 0 and holds an odd number of instrument 1; nobody has a fund. */
    private static LastingTest failing(int members, int capital) {
        LastingTest run = new LastingTest(members, 2, capital, 10);
        run.does("trade", it -> it.trade(0, 1, 0, 100));
        run.does("trade", it -> it.trade(members - 1, 0, 1, 7));
        run.does("quote", it -> it.quote(0, 20));
        run.does("settle", it -> it.settle());
        run.does("callMargins", it -> it.callMargins() == 2);
        run.does("declareDefault", it -> it.declareDefault(0));
        return run;
    }

    private static void keepsSumsThroughASale() {
        Check.sentence("Cash conservation: the sum over m < M of getBalance(m,CASH) + getBalance(m,FUND), plus"
            + " getHouse(), equals H + D - W");
        for (int amount : new int[] {-1000000, -1, 0, 1, 7999, 8000, 8001, 1000000}) {
            for (int capital : new int[] {-5, 0, 1, 7999, 8000, 8001, 1000000, 1000001}) {
                LastingTest run = failing(4, capital);
                run.pays(2, FUND, 3);
                run.pays(3, FUND, 4);
                run.does("bid", it -> it.bid(2, amount));
                run.does("closeAuction", it -> it.closeAuction());
                run.takes(1, CASH, 8);
                run.takes(3, FUND, 1);
            }
        }
    }

    private static void keepsSumsThroughForcedAllocation() {
        Check.sentence("Zero-sum positions: for every instrument i with 0 <= i < N, the sum over m < M of"
            + " getPosition(m,i) is exactly 0.");
        for (int fund = 0; fund <= 12; fund++) {
            for (int members = 3; members <= 8; members++) {
                LastingTest run = failing(members, 100);
                for (int m = 1; m < members; m++) {
                    run.pays(m, FUND, fund * m % 5);
                }
                run.does("closeAuction", it -> it.closeAuction());
            }
        }
    }

    private static void keepsSumsThroughEveryRemainder() {
        Check.sentence("whether transfer or forced allocation, including every waterfall layer and pro-rata remainder.");
        for (int loss = 0; loss <= 40; loss++) {
            int asked = loss;
            LastingTest run = failing(8, 8003);
            for (int m = 1; m < 8; m++) {
                run.pays(m, FUND, m == 4 ? 1 : 5);
            }
            run.does("bid", it -> it.bid(5, -asked));
            run.does("closeAuction", it -> it.closeAuction());
        }
    }

    private long next() {
        seed = seed * 6364136223846793005L + 1442695040888963407L;
        long mixed = (seed ^ (seed >>> 29)) * 0xBF58476D1CE4E5B9L;
        return mixed ^ (mixed >>> 32);
    }

    /** Mostly small numbers, often one at an edge, now and then any int at all. */
    private int any() {
        int[] edges = {Integer.MIN_VALUE, Integer.MIN_VALUE + 1, -1000001, -1000000, -1, 0, 1, 2, 3, 100, 999, 1000,
            1001, 100000, 100001, 999999, 1000000, 1000001, Integer.MAX_VALUE};
        int kind = (int) Long.remainderUnsigned(next(), 10);
        if (kind < 6) {
            return (int) Long.remainderUnsigned(next(), 9);
        }
        if (kind < 9) {
            return edges[(int) Long.remainderUnsigned(next(), edges.length)];
        }
        return (int) next();
    }

    private static void keepsSumsForAnyInts() {
        Check.sentence("On every object and after every sequence of calls with any int arguments:");
        int closed = 0;
        for (int n = 0; n < RUNS; n++) {
            LastingTest draw = new LastingTest(2, 1, 0, 1);
            draw.seed = n;
            LastingTest run = new LastingTest(draw.any(), draw.any(), draw.any(), draw.any());
            run.seed = draw.next();
            for (int call = 0; call < CALLS; call++) {
                closed += run.anyCall((int) Long.remainderUnsigned(run.next(), 12)) ? 1 : 0;
            }
        }
        Check.yes("at least 1000 auctions were closed in it, not " + closed, closed >= 1000);
    }

    private boolean anyCall(int kind) {
        int a = any();
        int b = any();
        int c = any();
        int d = any();
        boolean closed = false;
        switch (kind) {
            case 0, 1 -> pays(a, b, c);
            case 2 -> takes(a, b, c);
            case 3 -> house.quote(a, b);
            case 4, 5, 6 -> house.trade(a, b, c, d);
            case 7 -> house.settle();
            case 8 -> house.callMargins();
            case 9 -> house.declareDefault(a);
            case 10 -> house.bid(a, b);
            default -> closed = house.closeAuction();
        }
        holds("call " + kind + " with " + a + ", " + b + ", " + c + ", " + d);
        return closed;
    }
}
