import java.math.BigInteger;
import java.util.ArrayList;
import java.util.List;
import java.util.TreeMap;

/**
 * The document written a second time, as literally and as slowly as it reads, to compare the class with.
 * It shares no code with the class.
 */
final class Model {
    final int members;
    final int instruments;
    final int risk;
    final long[] cash;
    final long[] fund;
    final long[] call;
    final int[] status;
    final int[][] pos;
    final int[] price;
    final int[] settlement;
    long house;
    long[] waterfall = {0, 0, 0, 0, 0, -1, 0};
    TreeMap<Integer, Integer> bids = new TreeMap<>();

    Model(int members, int instruments, int houseCapital, int riskPercent) {
        this.members = Math.max(2, Math.min(8, members));
        this.instruments = Math.max(1, Math.min(4, instruments));
        this.house = Math.max(0, Math.min(1000000, houseCapital));
        this.risk = Math.max(1, Math.min(50, riskPercent));
        cash = new long[this.members];
        fund = new long[this.members];
        call = new long[this.members];
        status = new int[this.members];
        pos = new int[this.members][this.instruments];
        price = new int[this.instruments];
        settlement = new int[this.instruments];
        java.util.Arrays.fill(price, 100);
        java.util.Arrays.fill(settlement, 100);
    }

    boolean member(int m) {
        return 0 <= m && m < members;
    }

    boolean instrument(int i) {
        return 0 <= i && i < instruments;
    }

    int defaulting() {
        for (int m = 0; m < members; m++) {
            if (status[m] == 1) {
                return m;
            }
        }
        return -1;
    }

    boolean normal() {
        return defaulting() == -1;
    }

    List<Integer> survivors() {
        List<Integer> list = new ArrayList<>();
        for (int m = 0; m < members; m++) {
            if (status[m] == 0) {
                list.add(m);
            }
        }
        return list;
    }

    long funds() {
        return survivors().stream().mapToLong(m -> fund[m]).sum();
    }

    /** All 5^N vectors, those with entries more than 1 apart passed over. */
    long margin(int m) {
        long greatest = 0;
        int vectors = 1;
        for (int i = 0; i < instruments; i++) {
            vectors *= 5;
        }
        for (int code = 0; code < vectors; code++) {
            int least = 2;
            int most = -2;
            long loss = 0;
            int rest = code;
            for (int i = 0; i < instruments; i++) {
                int c = rest % 5 - 2;
                rest /= 5;
                least = Math.min(least, c);
                most = Math.max(most, c);
                loss -= (long) pos[m][i] * c * (settlement[i] * risk / 100);
            }
            if (most - least <= 1) {
                greatest = Math.max(greatest, loss);
            }
        }
        return greatest;
    }

    TreeMap<Integer, Long> split(long amount) {
        BigInteger total = BigInteger.valueOf(funds());
        TreeMap<Integer, Long> parts = new TreeMap<>();
        long left = amount;
        for (int j : survivors()) {
            BigInteger product = BigInteger.valueOf(amount).multiply(BigInteger.valueOf(fund[j]));
            long part = product.divide(total).longValueExact();
            parts.put(j, part);
            left -= part;
        }
        for (int j : survivors()) {
            if (left > 0 && fund[j] > 0) {
                parts.merge(j, 1L, Long::sum);
                left--;
            }
        }
        if (left != 0) {
            throw new IllegalStateException("the document says that none is left");
        }
        return parts;
    }

    boolean deposit(int m, int account, int amount) {
        if (!member(m) || account < 0 || account > 1 || amount < 1 || amount > 1000000 || status[m] != 0) {
            return false;
        }
        if (account == 0) {
            cash[m] += amount;
            call[m] -= Math.min(call[m], amount);
        } else {
            fund[m] += amount;
        }
        return true;
    }

    boolean withdraw(int m, int account, int amount) {
        if (!member(m) || account < 0 || account > 1 || amount < 1 || amount > 1000000 || !normal()) {
            return false;
        }
        if (account == 0) {
            if (call[m] != 0 || cash[m] - amount < margin(m)) {
                return false;
            }
            cash[m] -= amount;
        } else {
            if (fund[m] < amount) {
                return false;
            }
            fund[m] -= amount;
        }
        return true;
    }

    boolean quote(int i, int value) {
        if (!instrument(i) || value < 1 || value > 100000) {
            return false;
        }
        price[i] = value;
        return true;
    }

    boolean trade(int buyer, int seller, int i, int quantity) {
        if (!normal() || !member(buyer) || !member(seller) || buyer == seller || status[buyer] != 0
            || status[seller] != 0 || !instrument(i) || quantity < 1 || quantity > 1000
            || Math.abs(pos[buyer][i] + quantity) > 10000 || Math.abs(pos[seller][i] - quantity) > 10000) {
            return false;
        }
        pos[buyer][i] += quantity;
        pos[seller][i] -= quantity;
        long d = (long) quantity * (settlement[i] - price[i]);
        cash[buyer] += d;
        cash[seller] -= d;
        return true;
    }

    boolean settle() {
        if (!normal()) {
            return false;
        }
        for (int m = 0; m < members; m++) {
            for (int i = 0; i < instruments; i++) {
                cash[m] += (long) pos[m][i] * (price[i] - settlement[i]);
            }
        }
        System.arraycopy(price, 0, settlement, 0, instruments);
        return true;
    }

    int callMargins() {
        if (!normal()) {
            return -1;
        }
        int count = 0;
        for (int m = 0; m < members; m++) {
            call[m] = status[m] == 0 ? Math.max(0, margin(m) - cash[m]) : 0;
            count += call[m] > 0 ? 1 : 0;
        }
        return count;
    }

    boolean declareDefault(int m) {
        if (!normal() || !member(m) || status[m] != 0 || call[m] <= 0 || survivors().equals(List.of(m))) {
            return false;
        }
        status[m] = 1;
        call[m] = 0;
        bids.clear();
        return true;
    }

    boolean bid(int m, int amount) {
        if (normal() || !member(m) || status[m] != 0 || amount < -1000000 || amount > 1000000) {
            return false;
        }
        bids.put(m, amount);
        return true;
    }

    boolean closeAuction() {
        if (normal()) {
            return false;
        }
        int d = defaulting();
        int winner = -2;
        int highest = 0;
        for (int m : bids.keySet()) {
            if (winner == -2 || bids.get(m) > highest) {
                winner = m;
                highest = bids.get(m);
            }
        }
        if (winner == -2) {
            allocate(d);
        } else {
            for (int i = 0; i < instruments; i++) {
                pos[winner][i] += pos[d][i];
                pos[d][i] = 0;
            }
            cash[winner] -= highest;
            cash[d] += highest;
        }
        waterfall = charge(d);
        waterfall[5] = winner;
        waterfall[6] = highest;
        status[d] = 2;
        bids.clear();
        return true;
    }

    private void allocate(int d) {
        for (int i = 0; i < instruments; i++) {
            int q = pos[d][i];
            if (q == 0) {
                continue;
            }
            if (funds() == 0) {
                pos[survivors().get(0)][i] += q;
            } else {
                TreeMap<Integer, Long> parts = split(Math.abs(q));
                for (int j : survivors()) {
                    pos[j][i] += Integer.signum(q) * parts.get(j).intValue();
                }
            }
            pos[d][i] = 0;
        }
    }

    private long[] charge(int d) {
        long loss = cash[d] < 0 ? -cash[d] : 0;
        if (loss > 0) {
            cash[d] = 0;
        }
        long rem = loss;
        long t1 = Math.min(rem, fund[d]);
        fund[d] -= t1;
        rem -= t1;
        long t2 = house > 0 ? Math.min(rem, house) : 0;
        house -= t2;
        rem -= t2;
        long t3;
        if (rem >= funds()) {
            t3 = funds();
            for (int j : survivors()) {
                fund[j] = 0;
            }
        } else {
            t3 = rem;
            TreeMap<Integer, Long> parts = split(rem);
            for (int j : survivors()) {
                fund[j] -= parts.get(j);
            }
        }
        rem -= t3;
        long t4 = rem;
        house -= t4;
        return new long[] {loss, t1, t2, t3, t4, 0, 0};
    }
}
