/** Promise 10: closeAuction. Member 0 has lost 8000 on 100 long in most of them. (The split itself: SplitTest.) */
public final class AuctionTest {
    private static final int CASH = ClearingHouse.CASH;
    private static final int FUND = ClearingHouse.FUND;
    private static final int FORCED = ClearingHouse.FORCED_ALLOCATION;

    private AuctionTest() { }

    public static void main(String[] args) {
        refusesOutsideAnAuction();
        sellsToTheHighestBidder();
        letsAnySurvivorWin();
        takesOneBidOfAnyHeight();
        breaksTiesByIndex();
        transfersEveryInstrument();
        movesTheBidBothWays();
        forcesWithoutMoney();
        forcesAllOnTheFirstWithoutFunds();
        forcesByFunds();
        forcesShortPositions();
        leavesInstrumentsTheDefaulterDoesNotHold();
        goesAboveTheLimitByABid();
        goesAboveTheLimitByForce();
        findsTheLossAtZero();
        countsTheBidBeforeTheLoss();
        takesTheDefaultersFundFirst();
        takesTheHouseNext();
        sparesAHouseAtOrBelowZero();
        takesTheWholeFundsOrAPart();
        chargesEverySurvivor();
        keepsTheFundsOfTheStart();
        chargesTheHouseTheExcess();
        recordsEveryLayer();
        endsTheAuction();
        leavesCashWithTheDefaulter();
        chargesNothingWithoutALoss();
        keepsPricesCallsAndStatuses();
        clearsTheBidOfAnyMember();
        closesOneAuctionAfterAnother();
        Check.finish();
    }

    private static void layers(ClearingHouse house, long... due) {
        for (int layer = 0; layer < 7; layer++) {
            Check.number("layer " + layer, due[layer], house.getWaterfall(layer));
        }
    }

    private static void accounts(ClearingHouse house, int account, long... due) {
        for (int m = 0; m < due.length; m++) {
            Check.number((account == CASH ? "cash " : "fund ") + m, due[m], house.getBalance(m, account));
        }
    }

    private static void positions(ClearingHouse house, int instrument, int... due) {
        for (int m = 0; m < due.length; m++) {
            Check.number("position " + m + " " + instrument, due[m], house.getPosition(m, instrument));
        }
    }

    private static void statuses(ClearingHouse house, int... due) {
        for (int m = 0; m < due.length; m++) {
            Check.number("status " + m, due[m], house.getStatus(m));
        }
    }

    private static void refusesOutsideAnAuction() {
        Check.sentence("Refused (false, nothing changes) unless the phase is AUCTION.");
        Check.refuses("at the start", () -> new ClearingHouse(3, 2, 5, 10), house -> house.closeAuction());
        Check.refuses("before the default", () -> Scene.called(3, 5, 1, 2), house -> house.closeAuction());
        Check.refuses("twice", () -> Scene.closed(3, 5, 1, 2), house -> house.closeAuction());
    }

    private static void sellsToTheHighestBidder() {
        Check.sentence("The winner w is the bidder with the highest amount B; ties go to the lowest index.");
        ClearingHouse house = Scene.auction(4, 1000, 9000, 1, 2, 3);
        Check.yes("bid", house.bid(1, 30));
        Check.yes("bid", house.bid(2, 500));
        Check.yes("bid", house.bid(3, 499));
        Check.does("close", house, it -> it.closeAuction(), "position 0 0", 0, "position 2 0", 100, "cash 2", -500,
            "cash 0", 0, "fund 0", 1500, "margin 0", 0, "margin 2", 400, "status 0", 2, "layer 0", 7500,
            "layer 1", 7500, "layer 5", 2, "layer 6", 500);
        for (int highest = 1; highest < 4; highest++) {
            house = Scene.auction(4, 0);
            for (int m = 3; m > 0; m--) {
                Check.yes("bid", house.bid(m, m == highest ? -5 : -6));
            }
            Check.yes("close", house.closeAuction());
            Check.reads(house, "layer 5", highest, "layer 6", -5);
        }
    }

    private static void letsAnySurvivorWin() {
        Check.sentence("The winner w is the bidder with the highest amount B; ties go to the lowest index.");
        for (int members = 2; members <= 8; members++) {
            for (int d = 0; d < members; d++) {
                for (int w = 0; w < members; w++) {
                    if (w != d) {
                        wins(members, d, w);
                    }
                }
            }
        }
    }

    private static void wins(int members, int d, int w) {
        ClearingHouse house = Scene.auctionOf(d, members, 0);
        for (int m = 0; m < members; m++) {
            Check.due("bid", m != d, house.bid(m, m == w ? 10 : 9));
        }
        Check.yes("close", house.closeAuction());
        int other = (d + 1) % members;
        Check.reads(house, "layer 5", w, "layer 6", 10, "cash " + w, -10, "cash " + d, 10, "status " + d, 2,
            "position " + d + " 0", 0, "position " + w + " 0", w == other ? 0 : 5);
    }

    private static void takesOneBidOfAnyHeight() {
        Check.sentence("Transfer, when at least one bid exists.");
        for (int amount : new int[] {-1000000, -1, 0, 1, 1000000}) {
            ClearingHouse house = Scene.auction(4, 0, 0, 5, 5, 5);
            Check.yes("bid", house.bid(3, amount));
            Check.yes("close", house.closeAuction());
            Check.reads(house, "layer 5", 3, "layer 6", amount, "cash 3", -amount);
            positions(house, 0, 0, -100, 0, 100);
        }
    }

    private static void breaksTiesByIndex() {
        Check.sentence("ties go to the lowest index.");
        for (int amount : new int[] {-1000000, -7, 0, 7, 1000000}) {
            ClearingHouse house = Scene.auction(5, 0);
            Check.yes("bid", house.bid(4, amount));
            Check.yes("bid", house.bid(2, amount));
            Check.yes("bid", house.bid(3, amount));
            Check.yes("close", house.closeAuction());
            Check.reads(house, "layer 5", 2, "layer 6", amount);
            positions(house, 0, 0, -100, 100, 0, 0);
            house = Scene.auction(5, 0);
            for (int m = 1; m < 5; m++) {
                Check.yes("bid", house.bid(m, amount));
            }
            Check.yes("close", house.closeAuction());
            Check.reads(house, "layer 5", 1, "layer 6", amount);
        }
    }

    private static void transfersEveryInstrument() {
        Check.sentence("For every instrument i: pos(w,i) += pos(d,i); pos(d,i) := 0.");
        ClearingHouse house = new ClearingHouse(3, 4, 0, 10);
        int[] held = {7, -8, 0, 9};
        for (int i = 0; i < 4; i++) {
            Scene.build(house, 1, 0, i, held[i]);
            Scene.build(house, 2, 0, i, 2);
        }
        Check.number("calls", 3, house.callMargins());
        Check.yes("default", house.declareDefault(1));
        Check.yes("bid", house.bid(2, 4));
        Check.yes("close", house.closeAuction());
        for (int i = 0; i < 4; i++) {
            positions(house, i, -held[i] - 2, 0, held[i] + 2);
        }
    }

    private static void movesTheBidBothWays() {
        Check.sentence("Then cash(w) -= B and cash(d) += B.");
        int[][] cases = {{9000, 1000, -9000}, {-9000, 0, 9000}, {0, 0, 0}};
        for (int[] given : cases) {
            ClearingHouse house = Scene.auction(3, 0);
            Check.yes("bid", house.bid(2, given[0]));
            Check.yes("close", house.closeAuction());
            accounts(house, CASH, given[1], 8000, given[2]);
        }
    }

    private static void forcesWithoutMoney() {
        Check.sentence("Here B = 0 and no money moves.");
        ClearingHouse house = Scene.bothCalled(4, 50, 6, 7, 8, 9);
        Check.yes("default", house.declareDefault(0));
        // 5 over 7, 8 and 9: 1, 1, 1 and two units left.
        Check.does("close", house, it -> it.closeAuction(), "status 0", 2, "layer 5", FORCED, "position 0 0", 0,
            "position 1 0", -5 + 2, "position 2 0", 2, "position 3 0", 1, "margin 0", 0, "margin 1", 60,
            "margin 2", 40, "margin 3", 20);
    }

    private static void forcesAllOnTheFirstWithoutFunds() {
        Check.sentence("if F == 0, the lowest-index survivor receives all of q;");
        ClearingHouse house = Scene.called(4, 0, 250);
        Check.yes("a short position too", house.trade(2, 0, 1, 9));
        Check.yes("default", house.declareDefault(0));
        Check.yes("close", house.closeAuction());
        positions(house, 0, 0, 0, 0, 0);
        positions(house, 1, 0, -9, 9, 0);
        layers(house, 8000, 250, 0, 0, 7750, FORCED, 0);
        Check.yes("quote", house.quote(1, 5000));
        Check.yes("settle", house.settle());
        Check.number("calls", 1, house.callMargins());
        Check.yes("member 1 fails next, and 2 is the first", house.declareDefault(1));
        Check.yes("close", house.closeAuction());
        positions(house, 1, 0, 0, 9 - 9, 0);
        house = Scene.bothCalled(3, 0);
        Check.yes("member 1 fails, and 0 is the first", house.declareDefault(1));
        Check.yes("close", house.closeAuction());
        positions(house, 0, 5 - 5, 0, 0);
    }

    private static void forcesByFunds() {
        Check.sentence("otherwise |q| is pro-rata split, and each survivor j does pos(j,i) += sign(q) * part(j);");
        ClearingHouse house = Scene.auction(4, 8000, 50, 5, 3, 2);
        Check.yes("close", house.closeAuction());
        positions(house, 0, 0, -100 + 50, 30, 20);
        accounts(house, FUND, 50 - 50, 5, 3, 2);
        house = Scene.auction(4, 8000, 0, 0, 0, 1);
        Check.yes("a fund of 1 takes all", house.closeAuction());
        positions(house, 0, 0, -100, 0, 100);
    }

    /** Member 2 fails with 2 short of instrument 0 and 5 long of instrument 1. */
    private static void forcesShortPositions() {
        Check.sentence("each survivor j does pos(j,i) += sign(q) * part(j); finally pos(d,i) := 0.");
        ClearingHouse house = Scene.funded(4, 0, 100, 100, 0, 100);
        Check.yes("short", house.trade(0, 2, 0, 2));
        Check.yes("long", house.trade(2, 0, 1, 5));
        Check.number("calls", 2, house.callMargins());
        Check.yes("default", house.declareDefault(2));
        Check.yes("close", house.closeAuction());
        positions(house, 0, 2 - 1, -1, 0, 0);
        positions(house, 1, -5 + 2, 2, 0, 1);
        layers(house, 0, 0, 0, 0, 0, FORCED, 0);
        for (int sign = -1; sign <= 1; sign += 2) {
            house = Scene.funded(4, 0, 100, 200, 0, 300);
            Scene.build(house, 2, 0, 1, sign);
            Check.number("calls", 2, house.callMargins());
            Check.yes("default", house.declareDefault(2));
            Check.yes("a single unit", house.closeAuction());
            positions(house, 1, -sign + sign, 0, 0, 0);
        }
    }

    private static void leavesInstrumentsTheDefaulterDoesNotHold() {
        Check.sentence("Instruments where pos(d,i) = 0 are left as they are.");
        for (int fund = 0; fund < 3; fund++) {
            ClearingHouse house = Scene.bothCalled(4, 0, fund, fund, fund, fund);
            Check.yes("trade", house.trade(2, 3, 1, 40));
            Check.yes("default", house.declareDefault(0));
            Check.yes("close", house.closeAuction());
            positions(house, 1, 0, 0, 40, -40);
        }
        ClearingHouse house = Scene.bothCalled(3, 0);
        Check.yes("the portfolio is given back", house.trade(1, 0, 0, 5));
        Check.yes("default", house.declareDefault(0));
        Check.does("an empty portfolio", house, it -> it.closeAuction(), "status 0", 2, "layer 5", FORCED);
        house = Scene.bothCalled(3, 0);
        Check.yes("the portfolio is given back", house.trade(1, 0, 0, 5));
        Check.yes("default", house.declareDefault(0));
        Check.yes("bid", house.bid(2, 3));
        Check.does("an empty portfolio sold", house, it -> it.closeAuction(), "status 0", 2, "layer 5", 2,
            "layer 6", 3, "cash 0", 3, "cash 2", -3);
    }

    /** Members 0 and 1 are long to the limit, 2 and 3 short. */
    private static ClearingHouse full() {
        ClearingHouse house = new ClearingHouse(4, 1, 0, 10);
        Scene.build(house, 1, 2, 0, 10000);
        Scene.build(house, 0, 3, 0, 10000);
        Check.number("calls", 4, house.callMargins());
        return house;
    }

    private static void goesAboveTheLimitByABid() {
        Check.sentence("POSITION_LIMIT is not tested in closeAuction, for either kind of transfer.");
        ClearingHouse house = full();
        Check.yes("default", house.declareDefault(0));
        Check.yes("bid", house.bid(1, 0));
        Check.yes("close", house.closeAuction());
        positions(house, 0, 0, 20000, -10000, -10000);
        Check.yes("default", house.declareDefault(3));
        Check.yes("bid", house.bid(2, 0));
        Check.yes("close", house.closeAuction());
        positions(house, 0, 0, 20000, -20000, 0);
        Check.reads(house, "margin 1", 400000, "margin 2", 400000);
    }

    private static void goesAboveTheLimitByForce() {
        Check.sentence("A survivor's position may end above the limit in magnitude.");
        ClearingHouse house = full();
        Check.yes("default", house.declareDefault(0));
        Check.yes("close without funds", house.closeAuction());
        positions(house, 0, 0, 20000, -10000, -10000);
        Check.yes("default", house.declareDefault(3));
        Check.yes("fund", house.deposit(2, FUND, 5));
        Check.yes("close with funds", house.closeAuction());
        positions(house, 0, 0, 20000, -20000, 0);
    }

    private static void findsTheLossAtZero() {
        Check.sentence("L = -cash(d) if cash(d) < 0, otherwise 0.");
        int[][] cases = {{8002, 2, 0}, {8001, 1, 0}, {8000, 0, 0}, {7999, 0, 1}, {7998, 0, 2}, {0, 0, 8000}};
        for (int[] given : cases) {
            ClearingHouse house = Scene.auction(3, 9000, 0, 5, 5);
            Check.yes("bid", house.bid(2, given[0]));
            Check.yes("close", house.closeAuction());
            Check.reads(house, "cash 0", given[1], "layer 0", given[2], "house", 9000 - given[2]);
        }
    }

    private static void countsTheBidBeforeTheLoss() {
        Check.sentence("Steps, in this order:");
        ClearingHouse house = Scene.bothCalled(3, 0, 40, 30, 20);
        Check.yes("default of one without debt", house.declareDefault(0));
        Check.yes("bid", house.bid(2, -60));
        Check.yes("close", house.closeAuction());
        layers(house, 60, 40, 0, 20, 0, 2, -60);
        accounts(house, CASH, 0, 0, 60);
        accounts(house, FUND, 0, 30 - 12, 20 - 8);
    }

    /** What the layers 1 to 4 take of 8000, for these funds of the defaulter, of the house and of member 1. */
    private static void takes(int fund, int capital, int survivor, int... due) {
        ClearingHouse house = Scene.auction(3, capital, fund, survivor);
        Check.yes("bid", house.bid(2, 0));
        Check.yes("close", house.closeAuction());
        layers(house, 8000, due[0], due[1], due[2], due[3], 2, 0);
        accounts(house, FUND, fund - due[0], survivor - due[2], 0);
        accounts(house, CASH, 0, 8000, 0);
        Check.number("house", capital - due[1] - due[3], house.getHouse());
    }

    private static void takesTheDefaultersFundFirst() {
        Check.sentence("defaulter fund: t1 = min(rem, fund(d)); fund(d) -= t1; rem -= t1.");
        takes(8001, 500, 600, 8000, 0, 0, 0);
        takes(8000, 500, 600, 8000, 0, 0, 0);
        takes(7999, 500, 600, 7999, 1, 0, 0);
        takes(1, 500, 600, 1, 500, 600, 6899);
        takes(0, 500, 600, 0, 500, 600, 6900);
    }

    private static void takesTheHouseNext() {
        Check.sentence("house capital: t2 = min(rem, house) if house > 0, otherwise 0; house -= t2; rem -= t2.");
        takes(7000, 1001, 600, 7000, 1000, 0, 0);
        takes(7000, 1000, 600, 7000, 1000, 0, 0);
        takes(7000, 999, 600, 7000, 999, 1, 0);
        takes(7000, 1, 600, 7000, 1, 600, 399);
        takes(0, 8000, 5, 0, 8000, 0, 0);
        takes(0, 8001, 5, 0, 8000, 0, 0);
    }

    private static void sparesAHouseAtOrBelowZero() {
        Check.sentence("t2 = min(rem, house) if house > 0, otherwise 0;");
        takes(7000, 0, 600, 7000, 0, 600, 400);
        takes(7000, 0, 2000, 7000, 0, 1000, 0);
        for (int capital = 7999; capital <= 8001; capital++) {
            ClearingHouse house = Scene.auction(4, capital);
            Check.yes("bid", house.bid(2, 0));
            Check.yes("close", house.closeAuction());
            Check.yes("fund", house.deposit(3, FUND, 70));
            Check.yes("quote", house.quote(0, 10));
            Check.yes("settle", house.settle());
            Check.number("calls", 1, house.callMargins());
            Check.yes("a second default", house.declareDefault(2));
            Check.yes("bid", house.bid(3, 0));
            Check.yes("close", house.closeAuction());
            int left = capital - 8000;
            layers(house, 1000, 0, Math.max(0, left), 70, 930 - Math.max(0, left), 3, 0);
            Check.number("house", left - Math.max(0, left) - (930 - Math.max(0, left)), house.getHouse());
        }
    }

    private static void takesTheWholeFundsOrAPart() {
        Check.sentence("if rem >= F, every survivor's FUND becomes 0 and t3 = F; otherwise rem is pro-rata split,"
            + " each survivor's FUND decreases by its part, and t3 = rem.");
        takes(0, 0, 8001, 0, 0, 8000, 0);
        takes(0, 0, 8000, 0, 0, 8000, 0);
        takes(0, 0, 7999, 0, 0, 7999, 1);
        takes(7000, 400, 600, 7000, 400, 600, 0);
        takes(7000, 399, 600, 7000, 399, 600, 1);
        takes(7000, 401, 600, 7000, 401, 599, 0);
        takes(0, 0, 0, 0, 0, 0, 8000);
        ClearingHouse house = Scene.auction(4, 0, 0, 5000, 2000, 1000);
        Check.yes("close", house.closeAuction());
        accounts(house, FUND, 0, 0, 0, 0);
        layers(house, 8000, 0, 0, 8000, 0, FORCED, 0);
        house = Scene.auction(4, 0, 0, 5000, 2000, 1001);
        Check.yes("close", house.closeAuction());
        // 8000 over 8001: 4999, 1999, 1000 and two units left.
        accounts(house, FUND, 0, 0, 0, 1);
        layers(house, 8000, 0, 0, 8000, 0, FORCED, 0);
    }

    /** Whoever fails, the seven others have 10 each: of a loss of 69 all but the last pay 10, of 70 and more all do. */
    private static void chargesEverySurvivor() {
        Check.sentence("if rem >= F, every survivor's FUND becomes 0 and t3 = F; otherwise rem is pro-rata split,"
            + " each survivor's FUND decreases by its part, and t3 = rem.");
        for (int d = 0; d < 8; d++) {
            for (int loss = 69; loss <= 71; loss++) {
                ClearingHouse house = Scene.auctionOf(d, 8, 0, 10, 10, 10, 10, 10, 10, 10, 10);
                Check.yes("bid", house.bid((d + 3) % 8, -loss - 10));
                Check.yes("close", house.closeAuction());
                layers(house, loss + 10, 10, 0, Math.min(loss, 70), loss == 71 ? 1 : 0, (d + 3) % 8, -loss - 10);
                int last = d == 7 ? 6 : 7;
                for (int m = 0; m < 8; m++) {
                    Check.reads(house, "fund " + m, loss == 69 && m == last ? 1 : 0);
                }
            }
        }
    }

    /** The bid and the loss of d move no survivor's fund, so the forced parts and the charged parts have one weight. */
    private static void keepsTheFundsOfTheStart() {
        Check.sentence("survivors' funds, with F the sum of the survivors' FUNDs, which steps 1 to 3b leave unchanged:");
        ClearingHouse house = Scene.auction(4, 10, 7890, 200, 300, 500);
        Check.yes("close", house.closeAuction());
        positions(house, 0, 0, -100 + 20, 30, 50);
        layers(house, 8000, 7890, 10, 100, 0, FORCED, 0);
        accounts(house, FUND, 0, 180, 270, 450);
    }

    private static void chargesTheHouseTheExcess() {
        Check.sentence("house excess: t4 = rem; house -= t4. The house capital may thereby become negative.");
        takes(100, 200, 300, 100, 200, 300, 7400);
        ClearingHouse house = Scene.auction(3, 100, 10, 20, 30);
        Check.yes("bid", house.bid(2, -1000000));
        Check.yes("close", house.closeAuction());
        layers(house, 1008000, 10, 100, 50, 1007840, 2, -1000000);
        Check.number("house", -1007840, house.getHouse());
        accounts(house, CASH, 0, 8000, 1000000);
        accounts(house, FUND, 0, 0, 0);
    }

    private static void recordsEveryLayer() {
        Check.sentence("WF_WINNER = w (FORCED_ALLOCATION when there was no bid), WF_WINNING_BID = B.");
        ClearingHouse house = Scene.auction(4, 1000, 2000, 300, 400);
        Check.yes("bid", house.bid(3, -11));
        Check.yes("close", house.closeAuction());
        layers(house, 8011, 2000, 1000, 700, 4311, 3, -11);
        house = Scene.auction(4, 1000, 2000, 300, 400);
        Check.yes("close", house.closeAuction());
        layers(house, 8000, 2000, 1000, 700, 4300, FORCED, 0);
    }

    private static void endsTheAuction() {
        Check.sentence("status(d) := DEFAULTED; all bids are cleared; the phase returns to NORMAL.");
        ClearingHouse house = Scene.auctionWithBids();
        Check.yes("close", house.closeAuction());
        statuses(house, 2, 0, 0, 0);
        Check.due("bid", false, house.bid(2, 1));
        Check.due("close", false, house.closeAuction());
        Check.yes("settle", house.settle());
        Check.yes("trade", house.trade(1, 3, 0, 1));
        Check.number("calls", 3, house.callMargins());
        Check.yes("the next default", house.declareDefault(1));
        Check.yes("close", house.closeAuction());
        layers(house, 0, 0, 0, 0, 0, FORCED, 0);
        statuses(house, 2, 2, 0, 0);
    }

    private static void leavesCashWithTheDefaulter() {
        Check.sentence("Any cash(d) >= 0 left stays with d.");
        ClearingHouse house = Scene.auction(3, 1000, 9, 8, 7);
        Check.yes("bid", house.bid(1, 8001));
        Check.yes("close", house.closeAuction());
        accounts(house, CASH, 1, 8000 - 8001, 0);
        house = Scene.bothCalled(3, 0);
        Check.yes("cash short of the margin", house.deposit(0, CASH, 99));
        Check.yes("default", house.declareDefault(0));
        Check.yes("close without a bid", house.closeAuction());
        accounts(house, CASH, 99, 0, 0);
    }

    private static void chargesNothingWithoutALoss() {
        Check.sentence("When L = 0, t1 = t2 = t3 = t4 = 0 and no FUND balance or house capital changes.");
        for (int amount : new int[] {8000, 8001, 1000000}) {
            ClearingHouse house = Scene.auction(3, 1000, 9, 8, 7);
            Check.yes("bid", house.bid(1, amount));
            Check.yes("close", house.closeAuction());
            layers(house, 0, 0, 0, 0, 0, 1, amount);
            accounts(house, FUND, 9, 8, 7);
            Check.number("house", 1000, house.getHouse());
        }
        ClearingHouse house = Scene.bothCalled(3, 1000, 9, 8, 7);
        Check.yes("default", house.declareDefault(0));
        Check.yes("close without a bid", house.closeAuction());
        layers(house, 0, 0, 0, 0, 0, FORCED, 0);
        accounts(house, FUND, 9, 8, 7);
        Check.number("house", 1000, house.getHouse());
    }

    private static void keepsPricesCallsAndStatuses() {
        Check.sentence("Prices, calls and the statuses of all members other than d are unchanged.");
        ClearingHouse house = Scene.bothCalled(3, 0);
        Check.yes("default", house.declareDefault(0));
        Check.yes("quote", house.quote(0, 150));
        Check.yes("bid", house.bid(1, 3));
        Check.does("the call stays although the position is gone", house, it -> it.closeAuction(), "status 0", 2,
            "position 0 0", 0, "position 1 0", 0, "margin 0", 0, "margin 1", 0, "cash 0", 3, "cash 1", -3,
            "layer 5", 1, "layer 6", 3);
        Check.reads(house, "call 1", 100, "price 0", 150, "settlement 0", 100);
    }

    private static void clearsTheBidOfAnyMember() {
        Check.sentence("status(d) := DEFAULTED; all bids are cleared; the phase returns to NORMAL.");
        for (int d = 0; d < 8; d++) {
            ClearingHouse house = Scene.auctionOf(d, 8, 0);
            for (int m = 0; m < 8; m++) {
                Check.due("bid", m != d, house.bid(m, 50 + m));
            }
            Check.yes("close", house.closeAuction());
            Check.yes("the next default", house.declareDefault((d + 1) % 8));
            Check.yes("close", house.closeAuction());
            Check.reads(house, "layer 5", FORCED, "layer 6", 0);
        }
    }

    /** Six of eight members fail, each portfolio going on to the next, whose cash is always 1 short of its own price. */
    private static void closesOneAuctionAfterAnother() {
        Check.sentence("`closeAuction()` closes the auction of the DEFAULTING member d.");
        ClearingHouse house = new ClearingHouse(8, 1, 0, 10);
        for (int m = 1; m < 8; m++) {
            Check.yes("trade", house.trade(m, 0, 0, m));
        }
        Check.number("calls", 8, house.callMargins());
        int carried = 0;
        for (int m = 1; m < 7; m++) {
            carried += m;
            Check.yes("default", house.declareDefault(m));
            Check.yes("bid", house.bid(m + 1, -m));
            Check.yes("close", house.closeAuction());
            layers(house, 1, 0, 0, 0, 1, m + 1, -m);
            Check.reads(house, "position " + m + " 0", 0, "position " + (m + 1) + " 0", carried + m + 1, "house", -m);
        }
    }
}
