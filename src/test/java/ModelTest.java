import java.util.Collections;
import java.util.Map;
import java.util.TreeMap;

/**
 * Long runs of calls on the class and on Model side by side: every answer is compared, and after every call all that
 * can be read; and the two lasting properties are summed up from the class alone. The runs are the same each time.
 */
public final class ModelTest {
    private static final int RUNS = 600;
    private static final int CALLS = 400;

    private static final Map<String, Integer> SEEN = new TreeMap<>();

    private long seed;
    private ClearingHouse house;
    private Model model;
    private long paidIn;
    /** In a slanted run members with even indexes buy and the others sell, so that positions grow to the limit. */
    private boolean slanted;
    private String last = "";

    private ModelTest(long seed) {
        this.seed = seed;
    }

    public static void main(String[] args) {
        for (int run = 0; run < RUNS; run++) {
            Check.title("run " + run);
            if (!new ModelTest(run).play()) {
                break;
            }
        }
        sawEveryKind();
        Check.finish();
    }

    /** The runs are worth something only if they come by every branch of the document often. */
    private static void sawEveryKind() {
        Check.title("what the runs came by");
        for (String kind : new String[] {"deposit true", "deposit false", "withdraw true", "withdraw false", "quote true",
            "quote false", "trade true", "trade false", "settle true", "settle false", "callMargins true",
            "callMargins false", "declareDefault true", "declareDefault false", "bid true", "bid false",
            "closeAuction true", "closeAuction false", "sold", "allocated", "allocated without funds", "no loss",
            "defaulter fund", "house", "survivor funds in part", "survivor funds whole", "house excess",
            "house below 0", "house below 0 before", "third default", "above the limit", "a tie", "a bid below 0 wins",
            "a bid of 0 wins", "a short allocated", "units left over"}) {
            Check.yes(kind + " at least 20 times", SEEN.getOrDefault(kind, 0) >= 20);
        }
    }

    private static void saw(String kind) {
        SEEN.merge(kind, 1, Integer::sum);
    }

    /** SplitMix64. */
    private long next() {
        seed += 0x9E3779B97F4A7C15L;
        long z = seed;
        z = (z ^ (z >>> 30)) * 0xBF58476D1CE4E5B9L;
        z = (z ^ (z >>> 27)) * 0x94D049BB133111EBL;
        return z ^ (z >>> 31);
    }

    private int below(int bound) {
        return (int) Long.remainderUnsigned(next(), bound);
    }

    private boolean chance(int percent) {
        return below(100) < percent;
    }

    /** Mostly a right index below count, now and then one beside it or a wild one. */
    private int index(int count) {
        if (chance(95)) {
            return below(count);
        }
        return chance(70) ? below(count + 4) - 2 : (int) next();
    }

    /** A number up to greatest, of any size, and now and then one at the edge, beside it or a wild one. */
    private int amount(int greatest) {
        if (chance(6)) {
            return chance(70) ? new int[] {0, 1, greatest, greatest + 1, -1}[below(5)] : (int) next();
        }
        int size = greatest;
        for (int halvings = below(20); halvings > 0; halvings--) {
            size = Math.max(1, size / 2);
        }
        return 1 + below(size);
    }

    private boolean play() {
        int members = chance(90) ? 2 + below(7) : (int) next();
        int instruments = chance(90) ? 1 + below(4) : (int) next();
        int capital = chance(30) ? (int) next() : chance(50) ? below(1000001) : below(5000);
        int risk = chance(90) ? 1 + below(50) : (int) next();
        last = "new(" + members + ", " + instruments + ", " + capital + ", " + risk + ")";
        house = new ClearingHouse(members, instruments, capital, risk);
        model = new Model(members, instruments, capital, risk);
        paidIn = model.house;
        slanted = chance(50);
        for (int call = 0; call < CALLS; call++) {
            if (!callBoth() || !same() || !lasting()) {
                return false;
            }
        }
        return true;
    }

    /** Defaults are rare, so that there is something to lose, and auctions have a few bids before they close. */
    private boolean callBoth() {
        boolean normal = model.normal();
        int kind = below(100);
        if (kind < 16) {
            return deposit();
        } else if (kind < 24) {
            return withdraw();
        } else if (kind < 36) {
            return quote();
        } else if (kind < (normal ? 78 : 40)) {
            return trade();
        } else if (kind < (normal ? 86 : 44)) {
            return answered("settle()", model.settle(), house.settle());
        } else if (kind < (normal ? 94 : 48)) {
            return callMargins();
        } else if (kind < (normal ? 96 : 52)) {
            return declareDefault();
        } else if (kind < (normal ? 98 : 88)) {
            return bid();
        }
        return closeAuction();
    }

    private boolean deposit() {
        int member = index(model.members);
        int account = index(2);
        int amount = amount(1000000);
        boolean due = model.deposit(member, account, amount);
        paidIn += due ? amount : 0;
        return answered("deposit(" + member + ", " + account + ", " + amount + ")", due,
            house.deposit(member, account, amount));
    }

    private boolean withdraw() {
        int member = index(model.members);
        int account = index(2);
        int amount = amount(1000000);
        if (chance(40) && model.member(member)) {
            long most = account == 0 ? model.cash[member] - model.margin(member) : model.fund[member];
            amount = (int) Math.max(-5, Math.min(2000000, most + below(3) - 1));
        }
        boolean due = model.withdraw(member, account, amount);
        paidIn -= due ? amount : 0;
        return answered("withdraw(" + member + ", " + account + ", " + amount + ")", due,
            house.withdraw(member, account, amount));
    }

    private boolean quote() {
        int instrument = index(model.instruments);
        int price = chance(60) ? 50 + below(100) : amount(100000);
        return answered("quote(" + instrument + ", " + price + ")", model.quote(instrument, price),
            house.quote(instrument, price));
    }

    private boolean trade() {
        int buyer = index(model.members);
        int seller = index(model.members);
        if (slanted && chance(90)) {
            buyer &= ~1;
            seller |= 1;
        }
        int instrument = index(model.instruments);
        int quantity = chance(50) ? 900 + below(102) : amount(1000);
        return answered("trade(" + buyer + ", " + seller + ", " + instrument + ", " + quantity + ")",
            model.trade(buyer, seller, instrument, quantity), house.trade(buyer, seller, instrument, quantity));
    }

    private boolean callMargins() {
        int due = model.callMargins();
        int got = house.callMargins();
        Check.number("callMargins() after " + last, due, got);
        return answered("callMargins()", due >= 0, got >= 0);
    }

    private boolean declareDefault() {
        int member = index(model.members);
        return answered("declareDefault(" + member + ")", model.declareDefault(member), house.declareDefault(member));
    }

    private boolean bid() {
        int member = index(model.members);
        int amount = chance(10) ? 0 : chance(60) ? below(5) - 2 : amount(1000000) * (chance(50) ? 1 : -1);
        return answered("bid(" + member + ", " + amount + ")", model.bid(member, amount), house.bid(member, amount));
    }

    private boolean closeAuction() {
        long funds = model.funds();
        if (!model.normal()) {
            sawAuction();
        }
        boolean due = model.closeAuction();
        if (due) {
            sawClosing(funds);
        }
        return answered("closeAuction()", due, house.closeAuction());
    }

    private void sawAuction() {
        sawIf(model.house < 0, "house below 0 before");
        if (!model.bids.isEmpty()) {
            int highest = Collections.max(model.bids.values());
            sawIf(Collections.frequency(model.bids.values(), highest) > 1, "a tie");
            sawIf(highest < 0, "a bid below 0 wins");
            sawIf(highest == 0, "a bid of 0 wins");
        } else if (model.funds() > 0) {
            int quantity = model.pos[model.defaulting()][0];
            sawIf(quantity < 0, "a short allocated");
            long whole = 0;
            for (int j : model.survivors()) {
                whole += Math.abs(quantity) * model.fund[j] / model.funds();
            }
            sawIf(whole < Math.abs(quantity), "units left over");
        }
    }

    private void sawClosing(long funds) {
        long[] layers = model.waterfall;
        saw(layers[5] >= 0 ? "sold" : funds == 0 ? "allocated without funds" : "allocated");
        sawIf(layers[0] == 0, "no loss");
        sawIf(layers[1] > 0, "defaulter fund");
        sawIf(layers[2] > 0, "house");
        sawIf(layers[3] > 0 && layers[3] < funds, "survivor funds in part");
        sawIf(layers[3] > 0 && layers[3] == funds, "survivor funds whole");
        sawIf(layers[4] > 0, "house excess");
        sawIf(model.house < 0, "house below 0");
        sawIf(model.members - model.survivors().size() >= 3, "third default");
        for (int m = 0; m < model.members; m++) {
            for (int i = 0; i < model.instruments; i++) {
                sawIf(Math.abs(model.pos[m][i]) > 10000, "above the limit");
            }
        }
    }

    private static void sawIf(boolean condition, String kind) {
        if (condition) {
            saw(kind);
        }
    }

    private boolean answered(String call, boolean due, boolean got) {
        Check.due(call + " after " + last, due, got);
        saw(call.substring(0, call.indexOf('(')) + " " + due);
        last = call;
        return due == got;
    }

    private boolean same() {
        boolean same = equal("getHouse()", model.house, house.getHouse());
        for (int layer = 0; layer < 7; layer++) {
            same &= equal("getWaterfall(" + layer + ")", model.waterfall[layer], house.getWaterfall(layer));
        }
        for (int i = 0; i < model.instruments; i++) {
            same &= equal("getPrice(" + i + ", CURRENT)", model.price[i], house.getPrice(i, 0));
            same &= equal("getPrice(" + i + ", SETTLEMENT)", model.settlement[i], house.getPrice(i, 1));
        }
        for (int m = 0; m < model.members; m++) {
            same &= equal("getStatus(" + m + ")", model.status[m], house.getStatus(m));
            same &= equal("getBalance(" + m + ", CASH)", model.cash[m], house.getBalance(m, 0));
            same &= equal("getBalance(" + m + ", FUND)", model.fund[m], house.getBalance(m, 1));
            same &= equal("getMargin(" + m + ", REQUIREMENT)", model.margin(m), house.getMargin(m, 0));
            same &= equal("getMargin(" + m + ", CALL)", model.call[m], house.getMargin(m, 1));
            for (int i = 0; i < model.instruments; i++) {
                same &= equal("getPosition(" + m + ", " + i + ")", model.pos[m][i], house.getPosition(m, i));
            }
        }
        return same;
    }

    private boolean equal(String what, long due, long got) {
        Check.number(what + " after " + last, due, got);
        return due == got;
    }

    private boolean lasting() {
        long money = house.getHouse();
        long[] positions = new long[4];
        for (int m = 0; house.getStatus(m) != -1; m++) {
            money += house.getBalance(m, 0) + house.getBalance(m, 1);
            for (int i = 0; i < 4; i++) {
                positions[i] += house.getPosition(m, i);
            }
        }
        boolean kept = equal("the sum of all money", paidIn, money);
        for (int i = 0; i < 4; i++) {
            kept &= equal("the sum of the positions in " + i, 0, positions[i]);
        }
        return kept;
    }
}
