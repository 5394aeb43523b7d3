/** A central counterparty: positions, margins, and the default of a member. */
public final class ClearingHouse {
    public static final int CASH = 0;
    public static final int FUND = 1;
    public static final int ACTIVE = 0;
    public static final int DEFAULTING = 1;
    public static final int DEFAULTED = 2;
    public static final int CURRENT = 0;
    public static final int SETTLEMENT = 1;
    public static final int REQUIREMENT = 0;
    public static final int CALL = 1;
    public static final int WF_LOSS = 0;
    public static final int WF_DEFAULTER_FUND = 1;
    public static final int WF_HOUSE = 2;
    public static final int WF_SURVIVOR_FUNDS = 3;
    public static final int WF_HOUSE_EXCESS = 4;
    public static final int WF_WINNER = 5;
    public static final int WF_WINNING_BID = 6;
    public static final int NO_WINNER = -1;
    public static final int FORCED_ALLOCATION = -2;
    public static final int MAX_AMOUNT = 1000000;
    public static final int MAX_PRICE = 100000;
    public static final int MAX_QTY = 1000;
    public static final int POSITION_LIMIT = 10000;

    private static final int MIN_MEMBERS = 2;
    private static final int MAX_MEMBERS = 8;
    private static final int MIN_INSTRUMENTS = 1;
    private static final int MAX_INSTRUMENTS = 4;
    private static final int POSITION_SLOTS = MAX_MEMBERS * MAX_INSTRUMENTS;
    private static final int MAX_HOUSE_CAPITAL = 1000000;
    private static final int MIN_RISK_PERCENT = 1;
    private static final int MAX_RISK_PERCENT = 50;
    private static final int STARTING_PRICE = 100;
    private static final int LOWEST_SCENARIO = -2;
    private static final int HIGHEST_SCENARIO = 2;
    private static final int WATERFALL_LAYERS = 7;
    private static final int TOP_AMOUNT_BIT = 62;
    private static final int NO_MEMBER = -1;
    private static final int REFUSAL = -1;

    private final int memberCount;
    private final int instrumentCount;
    private final int riskPercent;
    private long house;
    /** The member in default; the phase is AUCTION just while there is one. */
    private int defaulter;

    private final int[] status = new int[MAX_MEMBERS];
    private final long[] cash = new long[MAX_MEMBERS];
    private final long[] fund = new long[MAX_MEMBERS];
    private final long[] marginCall = new long[MAX_MEMBERS];
    private final boolean[] hasBid = new boolean[MAX_MEMBERS];
    private final int[] bidAmount = new int[MAX_MEMBERS];
    private final int[] position = new int[POSITION_SLOTS];
    private final int[] currentPrice = new int[MAX_INSTRUMENTS];
    private final int[] settlementPrice = new int[MAX_INSTRUMENTS];
    private final long[] waterfall = new long[WATERFALL_LAYERS];
    /** Each member's part of the last pro-rata split; no method may make an array to answer it in. */
    private final long[] part = new long[MAX_MEMBERS];

    public ClearingHouse(int members, int instruments, int houseCapital, int riskPercent) {
        this.memberCount = clamp(members, MIN_MEMBERS, MAX_MEMBERS);
        this.instrumentCount = clamp(instruments, MIN_INSTRUMENTS, MAX_INSTRUMENTS);
        this.riskPercent = clamp(riskPercent, MIN_RISK_PERCENT, MAX_RISK_PERCENT);
        this.house = clamp(houseCapital, 0, MAX_HOUSE_CAPITAL);
        this.defaulter = NO_MEMBER;
        for (int i = 0; i < MAX_INSTRUMENTS; i++) {
            currentPrice[i] = STARTING_PRICE;
            settlementPrice[i] = STARTING_PRICE;
        }
        waterfall[WF_WINNER] = NO_WINNER;
    }

    public boolean deposit(int member, int account, int amount) {
        if (!isMember(member) || !isAccount(account) || !isAmount(amount)) {
            return false;
        }
        if (status[member] != ACTIVE) {
            return false;
        }
        if (account == FUND) {
            fund[member] += amount;
            return true;
        }
        cash[member] += amount;
        marginCall[member] -= lesser(marginCall[member], amount);
        return true;
    }

    public boolean withdraw(int member, int account, int amount) {
        if (!isMember(member) || !isAccount(account) || !isAmount(amount) || isAuction()) {
            return false;
        }
        if (account == FUND) {
            if (fund[member] < amount) {
                return false;
            }
            fund[member] -= amount;
            return true;
        }
        if (marginCall[member] != 0 || cash[member] - amount < initialMargin(member)) {
            return false;
        }
        cash[member] -= amount;
        return true;
    }

    public boolean quote(int instrument, int price) {
        if (!isInstrument(instrument) || price < 1 || price > MAX_PRICE) {
            return false;
        }
        currentPrice[instrument] = price;
        return true;
    }

    public boolean trade(int buyer, int seller, int instrument, int quantity) {
        if (isAuction() || !isMember(buyer) || !isMember(seller) || buyer == seller) {
            return false;
        }
        if (status[buyer] != ACTIVE || status[seller] != ACTIVE) {
            return false;
        }
        if (!isInstrument(instrument) || quantity < 1 || quantity > MAX_QTY) {
            return false;
        }
        int bought = position[slot(buyer, instrument)] + quantity;
        int sold = position[slot(seller, instrument)] - quantity;
        if (!isWithinLimit(bought) || !isWithinLimit(sold)) {
            return false;
        }
        position[slot(buyer, instrument)] = bought;
        position[slot(seller, instrument)] = sold;
        // Positions are carried at the settlement price, so the gap to the traded price is paid at once.
        long difference = (long) quantity * (settlementPrice[instrument] - currentPrice[instrument]);
        cash[buyer] += difference;
        cash[seller] -= difference;
        return true;
    }

    public boolean settle() {
        if (isAuction()) {
            return false;
        }
        for (int m = 0; m < memberCount; m++) {
            cash[m] += variationMargin(m);
        }
        for (int i = 0; i < instrumentCount; i++) {
            settlementPrice[i] = currentPrice[i];
        }
        return true;
    }

    public int callMargins() {
        if (isAuction()) {
            return REFUSAL;
        }
        int called = 0;
        for (int m = 0; m < memberCount; m++) {
            marginCall[m] = shortfall(m);
            if (marginCall[m] > 0) {
                called++;
            }
        }
        return called;
    }

    public boolean declareDefault(int member) {
        if (isAuction() || !isMember(member)) {
            return false;
        }
        if (status[member] != ACTIVE || marginCall[member] <= 0 || survivorCount() < 2) {
            return false;
        }
        status[member] = DEFAULTING;
        marginCall[member] = 0;
        defaulter = member;
        clearBids();
        return true;
    }

    public boolean bid(int member, int amount) {
        if (!isAuction() || !isMember(member)) {
            return false;
        }
        if (status[member] != ACTIVE || amount < -MAX_AMOUNT || amount > MAX_AMOUNT) {
            return false;
        }
        hasBid[member] = true;
        bidAmount[member] = amount;
        return true;
    }

    public boolean closeAuction() {
        if (!isAuction()) {
            return false;
        }
        int failed = defaulter;
        int winner = highestBidder();
        int price = 0;
        if (winner == FORCED_ALLOCATION) {
            allocatePortfolio(failed);
        } else {
            price = bidAmount[winner];
            sellPortfolio(failed, winner, price);
        }
        chargeLoss(failed);
        waterfall[WF_WINNER] = winner;
        waterfall[WF_WINNING_BID] = price;
        status[failed] = DEFAULTED;
        defaulter = NO_MEMBER;
        clearBids();
        return true;
    }

    public long getBalance(int member, int account) {
        if (!isMember(member) || !isAccount(account)) {
            return 0;
        }
        return account == CASH ? cash[member] : fund[member];
    }

    public long getHouse() {
        return house;
    }

    public int getPosition(int member, int instrument) {
        if (!isMember(member) || !isInstrument(instrument)) {
            return 0;
        }
        return position[slot(member, instrument)];
    }

    public int getPrice(int instrument, int which) {
        if (!isInstrument(instrument)) {
            return 0;
        }
        if (which == CURRENT) {
            return currentPrice[instrument];
        }
        return which == SETTLEMENT ? settlementPrice[instrument] : 0;
    }

    public long getMargin(int member, int which) {
        if (!isMember(member)) {
            return 0;
        }
        if (which == REQUIREMENT) {
            return initialMargin(member);
        }
        return which == CALL ? marginCall[member] : 0;
    }

    public int getStatus(int member) {
        return isMember(member) ? status[member] : REFUSAL;
    }

    public long getWaterfall(int layer) {
        return layer >= 0 && layer < WATERFALL_LAYERS ? waterfall[layer] : 0;
    }

    private static int clamp(int value, int least, int greatest) {
        if (value < least) {
            return least;
        }
        return value > greatest ? greatest : value;
    }

    private static long lesser(long a, long b) {
        return a < b ? a : b;
    }

    private static long greater(long a, long b) {
        return a > b ? a : b;
    }

    private static int slot(int member, int instrument) {
        return member * MAX_INSTRUMENTS + instrument;
    }

    private static boolean isAccount(int account) {
        return account == CASH || account == FUND;
    }

    private static boolean isAmount(int amount) {
        return amount >= 1 && amount <= MAX_AMOUNT;
    }

    private static boolean isWithinLimit(int quantity) {
        return quantity >= -POSITION_LIMIT && quantity <= POSITION_LIMIT;
    }

    private boolean isMember(int member) {
        return member >= 0 && member < memberCount;
    }

    private boolean isInstrument(int instrument) {
        return instrument >= 0 && instrument < instrumentCount;
    }

    private boolean isAuction() {
        return defaulter != NO_MEMBER;
    }

    private int survivorCount() {
        int count = 0;
        for (int m = 0; m < memberCount; m++) {
            if (status[m] == ACTIVE) {
                count++;
            }
        }
        return count;
    }

    private long survivorFunds() {
        long total = 0;
        for (int m = 0; m < memberCount; m++) {
            if (status[m] == ACTIVE) {
                total += fund[m];
            }
        }
        return total;
    }

    private long variationMargin(int member) {
        long sum = 0;
        for (int i = 0; i < instrumentCount; i++) {
            sum += (long) position[slot(member, i)] * (currentPrice[i] - settlementPrice[i]);
        }
        return sum;
    }

    /**
     * The scenarios lie at most 1 apart, so each vector takes every entry from one pair (low, low + 1):
     * within a pair the worst entry of each instrument can be chosen on its own.
     */
    private long initialMargin(int member) {
        long worst = 0;
        for (int low = LOWEST_SCENARIO; low < HIGHEST_SCENARIO; low++) {
            long loss = worstLoss(member, low);
            worst = greater(worst, loss);
        }
        return worst;
    }

    private long worstLoss(int member, int low) {
        long loss = 0;
        for (int i = 0; i < instrumentCount; i++) {
            long width = (long) settlementPrice[i] * riskPercent / 100;
            long lossPerStep = -(position[slot(member, i)] * width);
            loss += greater(lossPerStep * low, lossPerStep * (low + 1));
        }
        return loss;
    }

    private long shortfall(int member) {
        if (status[member] != ACTIVE) {
            return 0;
        }
        long missing = initialMargin(member) - cash[member];
        return greater(0, missing);
    }

    private void clearBids() {
        for (int m = 0; m < memberCount; m++) {
            hasBid[m] = false;
        }
    }

    private int highestBidder() {
        int best = FORCED_ALLOCATION;
        for (int m = 0; m < memberCount; m++) {
            if (hasBid[m] && (best == FORCED_ALLOCATION || bidAmount[m] > bidAmount[best])) {
                best = m;
            }
        }
        return best;
    }

    private void sellPortfolio(int failed, int winner, int price) {
        for (int i = 0; i < instrumentCount; i++) {
            position[slot(winner, i)] += position[slot(failed, i)];
            position[slot(failed, i)] = 0;
        }
        cash[winner] -= price;
        cash[failed] += price;
    }

    private void allocatePortfolio(int failed) {
        long funds = survivorFunds();
        for (int i = 0; i < instrumentCount; i++) {
            int quantity = position[slot(failed, i)];
            int sign = quantity < 0 ? -1 : 1;
            if (funds > 0) {
                splitProRata(sign * quantity, funds);
            } else {
                giveAllToFirstSurvivor(sign * quantity);
            }
            for (int m = 0; m < memberCount; m++) {
                position[slot(m, i)] += sign * (int) part[m];
            }
            position[slot(failed, i)] = 0;
        }
    }

    private void giveAllToFirstSurvivor(long amount) {
        long left = amount;
        for (int m = 0; m < memberCount; m++) {
            part[m] = 0;
            if (status[m] == ACTIVE) {
                part[m] = left;
                left = 0;
            }
        }
    }

    /** Leaves each member's part in the array part, 0 for those who are not survivors; funds is F and above 0. */
    private void splitProRata(long amount, long funds) {
        long left = amount;
        for (int m = 0; m < memberCount; m++) {
            part[m] = 0;
            if (status[m] == ACTIVE) {
                part[m] = share(amount, fund[m], funds);
                left -= part[m];
            }
        }
        for (int m = 0; m < memberCount && left > 0; m++) {
            if (status[m] == ACTIVE && fund[m] > 0) {
                part[m]++;
                left--;
            }
        }
    }

    /**
     * floor(amount * weight / total), for amount >= 0 and 0 <= weight <= total. It goes through the bits of
     * amount, because the product of two balances can pass 64 bits; rest stays below total all the time.
     */
    private static long share(long amount, long weight, long total) {
        long quotient = 0;
        long rest = 0;
        for (int bit = TOP_AMOUNT_BIT; bit >= 0; bit--) {
            quotient *= 2;
            rest *= 2;
            if (rest >= total) {
                rest -= total;
                quotient++;
            }
            if ((amount >> bit & 1) == 1) {
                rest += weight;
                if (rest >= total) {
                    rest -= total;
                    quotient++;
                }
            }
        }
        return quotient;
    }

    private void chargeLoss(int failed) {
        long loss = 0;
        if (cash[failed] < 0) {
            loss = -cash[failed];
            cash[failed] = 0;
        }
        long fromDefaulter = lesser(loss, fund[failed]);
        fund[failed] -= fromDefaulter;
        long afterDefaulter = loss - fromDefaulter;
        long fromHouse = house > 0 ? lesser(afterDefaulter, house) : 0;
        house -= fromHouse;
        long afterHouse = afterDefaulter - fromHouse;
        long fromSurvivors = chargeSurvivors(afterHouse);
        long excess = afterHouse - fromSurvivors;
        house -= excess;
        waterfall[WF_LOSS] = loss;
        waterfall[WF_DEFAULTER_FUND] = fromDefaulter;
        waterfall[WF_HOUSE] = fromHouse;
        waterfall[WF_SURVIVOR_FUNDS] = fromSurvivors;
        waterfall[WF_HOUSE_EXCESS] = excess;
    }

    /** Answers how much of the amount the survivors' funds could bear. */
    private long chargeSurvivors(long amount) {
        long funds = survivorFunds();
        if (amount >= funds) {
            emptySurvivorFunds();
            return funds;
        }
        splitProRata(amount, funds);
        for (int m = 0; m < memberCount; m++) {
            fund[m] -= part[m];
        }
        return amount;
    }

    private void emptySurvivorFunds() {
        for (int m = 0; m < memberCount; m++) {
            if (status[m] == ACTIVE) {
                fund[m] = 0;
            }
        }
    }
}
