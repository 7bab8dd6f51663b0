/** Calls, members that fail, sales and settling (promises 27 to 30): a test for each sentence that names a boundary. */
public class FailingEdges extends Checks {
    private static final int FINE = 0, CALLED = 1, FAILED = 2, SETTLED = 3;
    private static final int CASH = 0, DEPOSIT = 1, SHARE = 2, UNCOVERED = 1, CAPITAL = 2;

    public static void main(String[] args) {
        calledBelowItsMargin();
        calledAtTheEndOfATick();
        failsThreeTicksLater();
        calledNoMore();
        reviewedAheadOfFailing();
        calledAnewCountsAnew();
        reviewedOnlyAtTheEnd();
        calledByWhatWasMoved();
        oneForEachTick();
        theLowestNumberFails();
        calledEarlierIsNotAhead();
        noneWhileOneIsToBeSettled();
        ticksInAll();
        failedAreCalledNoMore();
        failedDoNothing();
        itsOrdersGo();
        itsPositionsGo();
        positionsBelowZero();
        withoutPositionsSettledAtOnce();
        oldPositionsCount();
        positionsThatComeToNothing();
        costsAddUp();
        costsBehindASale();
        salesAreAllAtOnce();
        salesAreNoTrades();
        salesRefused();
        salesWhileNobodyIsToBeSettled();
        settledByTheLastSale();
        settledByACall();
        lossesOfLaterSales();
        lossesAndGains();
        depositsGoIntoCash();
        ownCashIsTakenFirst();
        ownShareIsTakenNext();
        capitalIsTakenNext();
        otherSharesAreTakenLast();
        otherSharesRoundedDown();
        failedOnesPayToo();
        greatShares();
        whereItGoes();
        uncoveredAddsUp();
        allFiveFail();
        end("members that fail");
    }

    /** Lets a member lose an amount, 1 to 998, to another one, without fees and positions; the last price of 2 is 1. */
    private static void loses(NettingHall x, int member, int to, int amount) {
        trade(x, member, to, 2, amount + 1, 1);
        trade(x, to, member, 2, 1, 1);
    }

    private static void fundsAll(NettingHall x, int... shares) {
        for (int m = 0; m < shares.length; m++) {
            if (shares[m] > 0) {
                x.fund(m, shares[m]);
            }
        }
    }

    private static void deposits(NettingHall x, int amount, int... members) {
        for (int m : members) {
            x.deposit(m, amount);
        }
    }

    /** A hall in which member 1 is worth so much, with 10 of instrument 0 and a margin of 450. */
    private static NettingHall withMargin(int worth) {
        NettingHall x = new NettingHall();
        x.scenario(-50, 0, 0);
        trade(x, 1, 0, 0, 90, 10);
        if (worth > 0) {
            x.deposit(1, worth);
        }
        return x;
    }

    private static void calledBelowItsMargin() {
        about("if the worth is less than the margin, it is called");
        for (int worth = 449; worth <= 451; worth++) {
            NettingHall x = withMargin(worth);
            is("worth", x.worth(1), worth);
            is("margin", x.margin(1), 450);
            x.tick(1);
            is("by a worth of " + worth, x.member(1), worth < 450 ? CALLED : FINE);
            is("the other one has no margin", x.member(0), FINE);
        }
        NettingHall y = new NettingHall();
        loses(y, 1, 0, 1);
        y.tick(1);
        is("-1 is less than 0", y.member(1), CALLED);
        is("0 is not", y.member(2), FINE);
        NettingHall z = new NettingHall();
        loses(z, 1, 0, 1);
        z.deposit(1, 1);
        z.tick(50);
        is("0 of 1 and -1", z.member(1), FINE);
        NettingHall s = new NettingHall();
        loses(s, 1, 0, 1);
        s.fund(1, 1000);
        s.tick(1);
        is("a share is of no use", s.member(1), CALLED);
    }

    private static void calledAtTheEndOfATick() {
        about("at the end of each tick");
        NettingHall x = withMargin(0);
        is("ahead of it", x.member(1), FINE);
        x.tick(1);
        is("behind it", x.member(1), CALLED);
        x.deposit(1, 1000);
        is("still", x.member(1), CALLED);
        x.tick(1);
        is("behind the next", x.member(1), FINE);
        about("who is called can do all the others can");
        NettingHall y = withMargin(0);
        y.tick(1);
        is("an order", y.order(1, 0, SELL, 95, 5, 0, DAY), 2);
        is("a stop", y.stop(1, 0, SELL, 95, 5, 1), 3);
        is("a deposit", y.deposit(1, 1), 1);
        is("a share", y.fund(1, 1), 1);
        is("a spread", y.spread(1, 1, 2, 1, 1), 0);
        is("still called", y.member(1), CALLED);
    }

    private static void failsThreeTicksLater() {
        about("fails: called 3 ticks ago or earlier");
        for (int ticks = 1; ticks <= 6; ticks++) {
            NettingHall x = withMargin(0);
            is("failed behind " + ticks + " at once", x.tick(ticks), ticks >= 4 ? 1 : 0);
            is("it is", x.member(1), ticks >= 4 ? FAILED : CALLED);
            NettingHall y = withMargin(0);
            for (int i = 1; i <= ticks; i++) {
                is("failed behind " + i + " one by one", y.tick(1), i >= 4 ? 1 : 0);
            }
        }
        NettingHall x = withMargin(0);
        is("within 50 ticks", x.tick(50), 1);
        NettingHall y = new NettingHall();
        y.tick(50);
        y.tick(49);
        trade(y, 1, 0, 0, 90, 10);
        y.scenario(-50, 0, 0);
        is("also later on", y.tick(3), 0);
        is("in the next", y.tick(1), 1);
    }

    private static void calledNoMore() {
        about("if it is not less, and the member is called, it is called no more");
        for (int more = 449; more <= 451; more++) {
            NettingHall x = withMargin(0);
            x.tick(1);
            x.deposit(1, more);
            x.tick(1);
            is("by a worth of " + more, x.member(1), more < 450 ? CALLED : FINE);
        }
        NettingHall y = withMargin(0);
        y.tick(1);
        y.deposit(1, 450);
        y.tick(50);
        is("it does not fail", y.member(1), FINE);
    }

    private static void reviewedAheadOfFailing() {
        about("calls go ahead of failing, in one tick");
        NettingHall x = withMargin(0);
        x.tick(3);
        x.deposit(1, 449);
        is("one short", x.tick(1), 1);
        NettingHall y = withMargin(0);
        y.tick(3);
        y.deposit(1, 450);
        is("enough", y.tick(1), 0);
        is("it is fine", y.member(1), FINE);
    }

    private static void calledAnewCountsAnew() {
        about("called anew, its ticks count anew");
        NettingHall x = withMargin(0);
        x.tick(3);
        x.deposit(1, 450);
        x.tick(1);
        trade(x, 3, 4, 0, 89, 1);
        deposits(x, 9000, 3, 4);
        is("called again", x.tick(1) * 10 + x.member(1), CALLED);
        is("two ticks later", x.tick(2), 0);
        is("three ticks later", x.tick(1), 1);
    }

    private static void reviewedOnlyAtTheEnd() {
        about("what is enough for a while within a tick does not count");
        NettingHall x = withMargin(0);
        deposits(x, 90000, 0, 3, 4);
        x.tick(2);
        trade(x, 3, 4, 0, 999, 1);
        is("enough", x.worth(1) >= x.margin(1) ? 1 : 0, 1);
        trade(x, 3, 4, 0, 90, 1);
        is("it fails in the fourth tick", x.tick(2), 1);
    }

    private static void calledByWhatWasMoved() {
        about("by whatever moves its worth or its margin");
        NettingHall x = withMargin(450);
        x.tick(1);
        x.scenario(-50, 50, 50);
        x.tick(1);
        is("a scenario as great", x.member(1), FINE);
        trade(x, 3, 4, 1, 5, 1);
        trade(x, 1, 3, 1, 5, 1);
        x.scenario(-50, -50, 0);
        x.tick(1);
        is("one that is greater: 452", x.margin(1) * 10 + x.member(1), 4520 + CALLED);
        NettingHall y = new NettingHall();
        trade(y, 1, 0, 0, 90, 10);
        y.dividend(0, 1);
        y.tick(1);
        is("who pays a dividend", y.member(0), CALLED);
        is("who gets it", y.member(1), FINE);
        NettingHall z = withMargin(450);
        z.tick(1);
        z.split(0, 4);
        z.tick(1);
        is("40 at 22 are worth 20 less, and a margin of 440", z.worth(1) * 1000 + z.margin(1), 430440);
        is("called", z.member(1), CALLED);
        z.breakTrade(0);
        z.tick(1);
        is("not behind a break", z.member(1), FINE);
    }

    private static void oneForEachTick() {
        about("the member with the lowest number fails, one in each tick");
        NettingHall x = new NettingHall();
        for (int m = 4; m > 0; m--) {
            loses(x, m, 0, 10);
        }
        is("none", x.tick(3), 0);
        for (int m = 1; m < 5; m++) {
            is("failed", x.tick(1), m);
            is("member " + m, x.member(m), SETTLED);
            is("the next", m < 4 ? x.member(m + 1) : CALLED, CALLED);
        }
        is("no more", x.tick(50), 4);
        is("who won", x.member(0), FINE);
    }

    private static void theLowestNumberFails() {
        about("the lowest number of those that were called 3 ticks ago or earlier");
        NettingHall x = new NettingHall();
        loses(x, 4, 0, 10);
        x.tick(1);
        loses(x, 2, 0, 10);
        is("4 is called first", x.tick(2), 0);
        is("it fails first", x.tick(1) * 10 + x.member(4), 10 + SETTLED);
        is("2 is called", x.member(2), CALLED);
        is("and fails a tick later", x.tick(1) * 10 + x.member(2), 20 + SETTLED);
    }

    private static void calledEarlierIsNotAhead() {
        about("who was called earlier is not ahead of a lower number");
        NettingHall x = withMargin(0);
        x.deposit(0, 9000);
        x.tick(1);
        loses(x, 4, 0, 10);
        x.tick(1);
        loses(x, 3, 0, 10);
        is("1 is to be settled", x.tick(4), 1);
        is("both are called 3 ticks ago or earlier", x.member(3) + x.member(4), 2 * CALLED);
        x.settle();
        is("at the next tick one fails", x.tick(1), 2);
        is("3, called later", x.member(3), FAILED);
        is("not 4", x.member(4), CALLED);
    }

    private static void noneWhileOneIsToBeSettled() {
        about("if no failed member is to be settled");
        NettingHall x = withMargin(0);
        loses(x, 2, 0, 10);
        is("1 fails", x.tick(4), 1);
        is("2 is called only", x.tick(50), 1);
        is("it is", x.member(2), CALLED);
        x.deposit(2, 10);
        x.tick(1);
        is("it can be called no more in this time", x.member(2), FINE);
        loses(x, 2, 0, 10);
        x.tick(2);
        is("no failing by a settling itself", x.settle() * 10 + x.member(2), CALLED);
        is("called 1 tick ago, then 2", x.tick(1), 1);
        is("then 3", x.tick(1), 2);
    }

    private static void ticksInAll() {
        about("returns how many members have failed in all");
        NettingHall x = new NettingHall();
        is("none", x.tick(1), 0);
        loses(x, 3, 0, 10);
        is("one", x.tick(50), 1);
        loses(x, 4, 0, 10);
        is("one and none", x.tick(3), 1);
        is("two, one of them settled long ago", x.tick(1), 2);
    }

    private static void failedAreCalledNoMore() {
        about("members that have not failed are looked at");
        NettingHall x = new NettingHall();
        loses(x, 1, 0, 100);
        x.tick(4);
        is("worth", x.worth(1), -100);
        is("margin", x.margin(1), 0);
        x.tick(50);
        is("settled it stays", x.member(1), SETTLED);
        NettingHall y = withMargin(0);
        y.tick(50);
        is("failed it stays", y.member(1), FAILED);
        is("its worth: 0 of cash", y.worth(1), 0);
        is("its margin", y.margin(1), 0);
    }

    private static void failedDoNothing() {
        about("a member that has failed can do nothing");
        for (int way = 0; way < 2; way++) {
            NettingHall x = withFailed();
            if (way == 1) {
                x.settle();
            }
            String before = stateOf(x);
            notNow("deposit", () -> x.deposit(1, 1));
            notNow("fund", () -> x.fund(1, 1));
            notNow("order", () -> x.order(1, 0, BUY, 1, 1, 0, DAY));
            notNow("stop", () -> x.stop(1, 0, BUY, 1, 1, 1));
            notNow("spread", () -> x.spread(1, 0, 1, 1, 1));
            notNow("sell to it", () -> x.sell(0, 1, 1));
            notNow("break of its trade", () -> x.breakTrade(0));
            is("nothing has changed", stateOf(x), before);
            replaysAll(x);
        }
    }

    private static void itsOrdersGo() {
        about("its orders go, waiting ones too");
        NettingHall x = new NettingHall();
        trade(x, 1, 0, 0, 100, 9);
        int stands = x.order(1, 0, BUY, 40, 8, 3, DAY);
        int others = x.order(2, 0, BUY, 40, 5, 0, DAY);
        int waits = x.stop(1, 1, BUY, 50, 4, 50);
        int tiedOne = x.order(1, 2, SELL, 70, 4, 0, DAY);
        int tiedTwo = x.order(1, 2, SELL, 71, 4, 0, DAY);
        x.tie(tiedOne, tiedTwo);
        trade(x, 3, 4, 0, 60, 1);
        x.copy(0);
        is("it fails", x.tick(3) * 10 + x.tick(1), 1);
        is("what stood", x.standing(stands), 0);
        is("what waited", x.standing(waits), 0);
        is("what was tied", x.standing(tiedOne) + x.standing(tiedTwo), 0);
        is("others stay", x.standing(others), 51);
        is("the book shows it", x.shown(0, BUY, 40), 5);
        is("the feed tells it", x.read(0), 40);
        is("each price", x.read(0), 200000 + 50000 + 70);
        is("of each order", x.read(0), 200000 + 50000 + 71);
        is("no more", x.read(0), -1);
        is("all of it is right then", x.wrong(0), 0);
        notNow("cancel", () -> x.cancel(stands));
        notNow("cancel what waited", () -> x.cancel(waits));
        notNow("tie", () -> x.tie(tiedOne, tiedTwo));
        trade(x, 3, 4, 1, 50, 1);
        is("it does not wake", x.position(1, 1), 0);
        replaysAll(x);
        NettingHall y = new NettingHall();
        y.order(1, 1, BUY, 1, 1, 0, DAY);
        loses(y, 1, 0, 10);
        y.stop(1, 1, BUY, 1, 1, 1);
        y.tick(4);
        is("the first of all, and the last", y.standing(0) + y.standing(5), 0);
    }

    private static void itsPositionsGo() {
        about("its positions go to the house at the last prices");
        NettingHall x = new NettingHall();
        trade(x, 1, 0, 0, 90, 10);
        trade(x, 1, 0, 1, 50, 8);
        trade(x, 0, 1, 2, 30, 7);
        trade(x, 3, 4, 0, 60, 1);
        trade(x, 3, 4, 1, 40, 1);
        trade(x, 3, 4, 2, 35, 1);
        is("its cash", x.money(1, CASH), -900 - 400 + 210);
        is("it fails", x.tick(50), 1);
        int[] due = {10, 8, -7};
        for (int i = 0; i < 3; i++) {
            is("what it has of " + i, x.position(1, i), 0);
            is("what the house has", x.position(HOUSE, i), due[i]);
        }
        is("its cash gets that", x.money(1, CASH), -1090 + 600 + 320 - 245);
        is("that of the house is less by that", x.money(HOUSE, CASH), -600 - 320 + 245);
        is("nothing is settled yet", x.member(1), FAILED);
        is("last prices stay", x.instrument(0) + x.instrument(1) + x.instrument(2), 1350);
        is("no trades", x.trades(), 6);
        replaysAll(x);
    }

    private static void positionsBelowZero() {
        about("of positions below 0 the loss is the other way round");
        for (int price = 69; price <= 72; price++) {
            NettingHall x = new NettingHall();
            trade(x, 0, 1, 0, 60, 10);
            trade(x, 3, 4, 0, 70, 1);
            deposits(x, 500, 3, 4);
            x.fund(HOUSE, 1000);
            is("who sold at 60 fails at 70", x.tick(4), 1);
            is("the house owes 10", x.position(HOUSE, 0), -10);
            is("that of the house is more by 700", x.money(HOUSE, CASH), 700);
            is("they are sold", x.sell(0, 2, price), -10);
            is("to one who owes them then", x.position(2, 0), -10);
            is("and gets the price", x.money(2, CASH), 10 * price);
            int lost = Math.max(0, 10 * (price - 70));
            is("100 were missing, and what was lost by " + price, x.money(HOUSE, CAPITAL), 900 - lost);
            is("nothing is uncovered", x.money(HOUSE, UNCOVERED), 0);
            is("the house has what it gained", x.money(HOUSE, CASH), Math.max(0, 10 * (70 - price)));
        }
    }

    private static void withoutPositionsSettledAtOnce() {
        about("when the house has no positions any more (also right when the member fails)");
        NettingHall x = new NettingHall();
        loses(x, 1, 0, 100);
        x.fund(1, 60);
        x.fund(HOUSE, 30);
        is("it fails", x.tick(4), 1);
        is("and is settled", x.member(1), SETTLED);
        is("its share", x.money(1, SHARE), 0);
        is("the capital", x.money(HOUSE, CAPITAL), 0);
        is("uncovered", x.money(HOUSE, UNCOVERED), 10);
        is("its cash", x.money(1, CASH), -10);
        notNow("none is to be settled", () -> x.settle());
    }

    private static void oldPositionsCount() {
        about("no positions any more, old ones counted");
        NettingHall x = withMargin(0);
        deposits(x, 9000, 0, 3);
        x.tick(4);
        x.settle();
        is("the house keeps them", x.position(HOUSE, 0), 10);
        loses(x, 2, 0, 50);
        x.fund(HOUSE, 1000);
        is("one without positions fails", x.tick(4), 2);
        is("and is not settled", x.member(2), FAILED);
        is("old ones are sold: 900 for 880", x.sell(0, 3, 88), 10);
        is("it is", x.member(2), SETTLED);
        is("their loss is its own: 50 and 20", x.money(HOUSE, CAPITAL), 930);
        is("the first one stays", x.member(1) * 1000 + x.money(1, CASH), 1000 * SETTLED);
    }

    private static void positionsThatComeToNothing() {
        about("the house has none of it where what came comes to 0");
        NettingHall x = new NettingHall();
        trade(x, 1, 2, 0, 90, 10);
        x.scenario(-50, 0, 0);
        is("who bought fails", x.tick(4), 1);
        x.settle();
        trade(x, 3, 4, 0, 95, 1);
        deposits(x, 500, 3, 4);
        is("who sold fails then", x.tick(4), 2);
        is("both make 0", x.position(HOUSE, 0), 0);
        is("so it is settled at once", x.member(2), SETTLED);
        is("50 are uncovered", x.money(HOUSE, UNCOVERED), 50);
        notNow("nothing can be sold", () -> x.sell(0, 3, 90));
        notNow("none is to be settled", () -> x.settle());
        is("50 came to the house by both", x.money(HOUSE, CASH), 50);
        about("what it cost: all that came since its last sale, also where that comes to no position");
        trade(x, 0, 4, 0, 100, 6);
        is("one more fails", x.tick(4), 3);
        is("with 6 at 100", x.position(HOUSE, 0), 6);
        x.fund(HOUSE, 1000);
        is("sold", x.sell(0, 3, 90), 6);
        is("they cost 600 less 50, and bring 540", x.money(HOUSE, CAPITAL), 990);
        is("it is settled", x.member(0), SETTLED);
        is("its cash", x.money(0, CASH), 0);
        is("the house's cash", x.money(HOUSE, CASH), 0);
        replaysAll(x);
    }

    /** A hall whose house has 10 of instrument 0 for 900 of member 1, settled, and 5 for 400 of member 2, failed. */
    private static NettingHall withTwo() {
        NettingHall x = withMargin(0);
        deposits(x, 9000, 0, 3, 4);
        x.tick(4);
        x.settle();
        trade(x, 2, 0, 0, 80, 5);
        x.fund(HOUSE, 1000);
        x.tick(4);
        return x;
    }

    private static void costsAddUp() {
        about("for an instrument all that came since its last sale, together");
        int[][] edges = {{86, 10}, {87, 0}, {50, 550}, {99, 0}};
        for (int[] edge : edges) {
            NettingHall x = withTwo();
            is("both", x.position(HOUSE, 0), 15);
            is("member 2", x.member(2), FAILED);
            is("all at once", x.sell(0, 4, edge[0]), 15);
            is("they cost 1300; what is lost by " + edge[0], 1000 - x.money(HOUSE, CAPITAL), edge[1]);
            is("it is settled", x.member(2), SETTLED);
        }
        about("times what it was split by, at what it cost");
        NettingHall x = withTwo();
        x.split(0, 3);
        is("45", x.sell(0, 4, 28), 45);
        is("1300 less 1260", 1000 - x.money(HOUSE, CAPITAL), 40);
        about("each instrument by itself");
        NettingHall y = new NettingHall();
        trade(y, 1, 0, 0, 90, 10);
        trade(y, 1, 0, 1, 30, 10);
        y.scenario(-50, -50, 0);
        y.deposit(1, 100);
        y.fund(HOUSE, 1000);
        deposits(y, 9000, 0, 3);
        y.tick(4);
        is("of instrument 1", y.sell(1, 3, 20), 10);
        is("not settled", y.member(1), FAILED);
        is("of instrument 0", y.sell(0, 3, 90), 10);
        is("100 are lost, its deposit", y.money(1, CASH), 0);
        is("the capital", y.money(HOUSE, CAPITAL), 1000);
    }

    private static void costsBehindASale() {
        about("since its last sale");
        NettingHall x = withTwo();
        x.sell(0, 4, 80);
        is("1300 less 1200", 1000 - x.money(HOUSE, CAPITAL), 100);
        trade(x, 3, 0, 0, 90, 10);
        trade(x, 4, 0, 0, 70, 1);
        long worth = x.worth(3);
        x.scenario(-50, -50, -50);
        is("worth", worth, 8800);
        loses(x, 3, 0, 998);
        for (int i = 0; i < 8; i++) {
            loses(x, 3, 0, 998);
        }
        is("a third one fails", x.tick(4), 3);
        is("with 10", x.position(HOUSE, 0), 10);
        long before = x.money(HOUSE, CAPITAL);
        is("its cash and its deposit", x.money(3, CASH) + x.money(3, DEPOSIT), -182);
        is("sold", x.sell(0, 4, 60), 10);
        is("182 are missing, 100 of 700 are lost", before - x.money(HOUSE, CAPITAL), 282);
    }

    private static void salesAreAllAtOnce() {
        about("the house can sell what it has of an instrument, all at once; returns the position that is sold");
        NettingHall x = withFailed();
        long cash = x.money(4, CASH);
        x.fund(HOUSE, 5000);
        is("the lowest price", x.sell(0, 4, 1), 20);
        is("to a member", x.position(4, 0), 20);
        is("it pays", cash - x.money(4, CASH), 20);
        is("the house has none", x.position(HOUSE, 0), 0);
        NettingHall y = withFailed();
        y.deposit(4, 1000000);
        is("the highest price", y.sell(0, 4, 9999), 20);
        is("it pays", y.money(4, CASH), -20 * 9999);
        is("what is gained stays with the house", y.money(HOUSE, CASH), -1200 + 20 * 9999 + 2);
        is("and is of no use for what is missing", y.money(1, CASH), -802);
        is("that is uncovered", y.money(HOUSE, UNCOVERED), 802);
        is("who bought the first time can", withFailed().sell(0, 0, 60), 20);
        NettingHall z = new NettingHall();
        trade(z, 0, 1, 0, 60, 1);
        trade(z, 3, 4, 0, 70, 1);
        deposits(z, 500, 4);
        z.tick(4);
        is("-1 is a position, too", z.sell(0, 2, 75), -1);
        is("it is settled", z.member(1) * 100 + z.money(HOUSE, UNCOVERED), 100 * SETTLED + 15);
        replaysAll(z);
    }

    private static void salesAreNoTrades() {
        about("it is no trade: without fees, and the last price stays");
        NettingHall x = withFailed();
        x.stop(2, 0, BUY, 70, 1, 61);
        x.band(0, 1);
        int trades = x.trades();
        long houseCash = x.money(HOUSE, CASH);
        x.sell(0, 4, 99);
        is("trades", x.trades(), trades);
        is("the last price", x.instrument(0), 600);
        is("no fee", x.money(4, CASH), -20 * 99);
        is("for the house neither", x.money(HOUSE, CASH) - houseCash, 20 * 99);
        is("no stop wakes", x.standing(x.order(2, 1, BUY, 1, 1, 0, DAY) - 1), 12);
        is("the phase stays", x.instrument(0), 600);
        about("what was sold does not count as traded");
        NettingHall y = new NettingHall();
        trade(y, 1, 0, 0, 1, 999);
        y.scenario(-50, 0, 0);
        y.deposit(0, 9000);
        is("it fails", y.tick(4), 1);
        is("sold", y.sell(0, 3, 1), 999);
        long before = y.money(3, CASH);
        trade(y, 3, 4, 1, 1000, 1);
        is("by the rate of 10: 1 of 1000", before - 1000 - y.money(3, CASH), 1);
        about("also in an auction");
        NettingHall z = withFailed();
        z.halt(0);
        is("sold", z.sell(0, 4, 60), 20);
        is("in AUCTION", z.instrument(0), 601);
    }

    private static void salesRefused() {
        about("IllegalStateException if the house has none of it, or the member has failed");
        NettingHall x = withFailed();
        String before = stateOf(x);
        notNow("none of it", () -> x.sell(1, 0, 60));
        notNow("who failed", () -> x.sell(0, 1, 60));
        outOfRange("none of it, at 0", () -> x.sell(1, 0, 0));
        noSuch("none of it, by the house", () -> x.sell(1, HOUSE, 0));
        is("nothing has changed", stateOf(x), before);
        is("then", x.sell(0, 0, 60), 20);
        notNow("a second time", () -> x.sell(0, 0, 60));
        NettingHall y = new NettingHall();
        notNow("a new one", () -> y.sell(0, 0, 60));
    }

    private static void salesWhileNobodyIsToBeSettled() {
        about("a loss counts for the member that is to be settled then, or for none");
        NettingHall x = withMargin(0);
        deposits(x, 9000, 0, 3, 4);
        x.fund(HOUSE, 1000);
        x.tick(4);
        x.settle();
        is("sold while there is none", x.sell(0, 3, 10), 10);
        is("the capital stays", x.money(HOUSE, CAPITAL), 1000);
        is("the house bears it", x.money(HOUSE, CASH), -800);
        is("who is settled has nothing more to pay", x.money(1, CASH), 0);
        loses(x, 2, 0, 50);
        is("the next fails", x.tick(4), 2);
        is("for 50, not for 850", x.money(HOUSE, CAPITAL), 950);
    }

    private static void settledByTheLastSale() {
        about("when the house has no positions any more the failed member is settled");
        NettingHall x = new NettingHall();
        for (int i = 0; i < 3; i++) {
            trade(x, 1, 0, i, 30, 10);
        }
        x.scenario(-1, -1, -1);
        deposits(x, 9000, 0, 3);
        x.deposit(1, 8);
        x.tick(4);
        is("first sale", x.sell(2, 3, 30) * 10 + x.member(1), 100 + FAILED);
        is("second", x.sell(0, 3, 30) * 10 + x.member(1), 100 + FAILED);
        is("its deposit", x.money(1, DEPOSIT), 8);
        is("last", x.sell(1, 3, 30) * 10 + x.member(1), 100 + SETTLED);
        is("its deposit goes into its cash", x.money(1, DEPOSIT) * 100 + x.money(1, CASH), 8);
        notNow("settled already", () -> x.settle());
    }

    private static void settledByACall() {
        about("settle: what it still has stays with the house, with what it cost");
        NettingHall x = withMargin(0);
        notNow("none has failed", () -> x.settle());
        x.tick(3);
        notNow("called only", () -> x.settle());
        deposits(x, 9000, 0, 3);
        x.tick(1);
        is("its cash is 0, nothing is lost", x.settle(), 0);
        is("settled", x.member(1), SETTLED);
        is("it stays", x.position(HOUSE, 0), 10);
        is("with the house's cash", x.money(HOUSE, CASH), -900);
        notNow("settled", () -> x.settle());
        about("returns what is uncovered by that");
        NettingHall y = withFailed();
        y.fund(HOUSE, 801);
        is("802 were missing", y.settle(), 1);
        is("uncovered", y.money(HOUSE, UNCOVERED), 1);
        is("its cash", y.money(1, CASH), -1);
        NettingHall z = withFailed();
        z.fund(HOUSE, 802);
        is("enough", z.settle(), 0);
        is("its cash", z.money(1, CASH), 0);
        replaysAll(z);
    }

    private static void lossesOfLaterSales() {
        about("what was lost by sales since it failed");
        NettingHall x = new NettingHall();
        trade(x, 1, 0, 0, 90, 10);
        trade(x, 1, 0, 1, 90, 10);
        x.scenario(-50, -50, -50);
        deposits(x, 9000, 0, 3);
        x.fund(HOUSE, 1000);
        x.tick(4);
        x.sell(0, 3, 80);
        is("settled ahead of the second sale", x.settle(), 0);
        is("100 were lost", x.money(HOUSE, CAPITAL), 900);
        x.sell(1, 3, 70);
        is("the second one counts for none", x.money(HOUSE, CAPITAL), 900);
        is("the house has lost it", x.money(HOUSE, CASH), -200);
    }

    /** What is needed behind sales of 10 and 10 that cost 900 each, while nothing is missing. */
    private static long neededBy(int first, int second) {
        NettingHall x = new NettingHall();
        trade(x, 1, 0, 0, 90, 10);
        trade(x, 1, 0, 1, 90, 10);
        x.scenario(-50, -50, -50);
        deposits(x, 90000, 0, 3);
        x.tick(4);
        x.sell(0, 3, first);
        x.sell(1, 3, second);
        is("settled", x.member(1), SETTLED);
        return x.money(HOUSE, UNCOVERED);
    }

    private static void lossesAndGains() {
        about("if that is more than 0 in all");
        is("two losses", neededBy(80, 70), 300);
        is("a loss and a gain", neededBy(80, 95), 50);
        is("a gain and a loss", neededBy(95, 80), 50);
        is("as much", neededBy(85, 95), 0);
        is("one more than that", neededBy(84, 95), 10);
        is("a gain in all", neededBy(85, 999), 0);
        is("two gains", neededBy(91, 91), 0);
        about("a gain does not make up for what is missing in its cash");
        NettingHall x = withFailed();
        x.sell(0, 4, 99);
        is("802 are missing, 780 gained", x.money(HOUSE, UNCOVERED), 802);
        is("its cash", x.money(1, CASH), -802);
    }

    private static void depositsGoIntoCash() {
        about("its deposit goes into its cash");
        for (int deposit = 98; deposit <= 99; deposit++) {
            NettingHall x = new NettingHall();
            loses(x, 1, 0, 100);
            x.deposit(1, deposit);
            x.fund(1, 50);
            x.tick(4);
            is("what is missing then comes of its share", 50 - x.money(1, SHARE), 100 - deposit);
            is("its deposit", x.money(1, DEPOSIT), 0);
            is("its cash", x.money(1, CASH), 0);
        }
        NettingHall y = withMargin(300);
        y.fund(1, 50);
        y.fund(HOUSE, 50);
        y.tick(4);
        y.sell(0, 0, 90);
        is("nothing is missing: it keeps it", y.money(1, CASH), 300);
        is("as cash", y.money(1, DEPOSIT), 0);
        is("its share", y.money(1, SHARE), 50);
    }

    private static void ownCashIsTakenFirst() {
        about("it is taken from its cash first");
        int[] prices = {90, 89, 60, 59};
        for (int price : prices) {
            NettingHall x = withMargin(300);
            x.fund(1, 5);
            x.fund(HOUSE, 50);
            x.tick(4);
            x.sell(0, 0, price);
            int lost = 10 * (90 - price);
            is("its cash behind a loss of " + lost, x.money(1, CASH), Math.max(0, 300 - lost));
            is("its share", x.money(1, SHARE), lost > 300 ? 0 : 5);
            is("the capital", x.money(HOUSE, CAPITAL), lost > 300 ? 45 : 50);
            is("the house has lost nothing", x.money(HOUSE, CASH), 0);
        }
    }

    /** A hall in which member 1 lost an amount, and fails without positions. */
    private static NettingHall missing(int amount, int capital, int... shares) {
        NettingHall x = new NettingHall();
        loses(x, 1, 0, amount);
        fundsAll(x, shares);
        if (capital > 0) {
            x.fund(HOUSE, capital);
        }
        x.tick(4);
        is("settled", x.member(1), SETTLED);
        return x;
    }

    private static void left(NettingHall x, long uncovered, long capital, long... shares) {
        is("uncovered", x.money(HOUSE, UNCOVERED), uncovered);
        is("its cash", x.money(1, CASH), -uncovered);
        is("the capital", x.money(HOUSE, CAPITAL), capital);
        for (int m = 0; m < shares.length; m++) {
            is("the share of " + m, x.money(m, SHARE), shares[m]);
        }
        is("the house's cash", x.money(HOUSE, CASH), 0);
    }

    private static void ownShareIsTakenNext() {
        about("then from its share of the fund");
        left(missing(100, 9, 9, 101, 9, 9, 9), 0, 9, 9, 1, 9, 9, 9);
        left(missing(100, 9, 9, 100, 9, 9, 9), 0, 9, 9, 0, 9, 9, 9);
        left(missing(100, 9, 9, 99, 9, 9, 9), 0, 8, 9, 0, 9, 9, 9);
        left(missing(100, 0, 0, 99, 0, 0, 0), 1, 0, 0, 0, 0, 0, 0);
        left(missing(1, 0, 0, 1, 0, 0, 0), 0, 0, 0, 0, 0, 0, 0);
    }

    private static void capitalIsTakenNext() {
        about("then from the capital of the house");
        left(missing(100, 101, 9, 0, 9, 9, 9), 0, 1, 9, 0, 9, 9, 9);
        left(missing(100, 100, 9, 0, 9, 9, 9), 0, 0, 9, 0, 9, 9, 9);
        left(missing(100, 99, 4, 0, 4, 4, 4), 0, 0, 3, 0, 4, 4, 4);
        left(missing(100, 99, 0, 0, 0, 0, 0), 1, 0, 0, 0, 0, 0, 0);
        left(missing(100, 50, 9, 50, 9, 9, 9), 0, 0, 9, 0, 9, 9, 9);
        left(missing(100, 50, 9, 49, 0, 0, 0), 0, 0, 8, 0, 0, 0, 0);
    }

    private static void otherSharesAreTakenLast() {
        about("then from the shares of the others");
        left(missing(100, 0, 10, 0, 20, 30, 41), 0, 0, 0, 0, 0, 0, 1);
        left(missing(100, 0, 10, 0, 20, 30, 40), 0, 0, 0, 0, 0, 0, 0);
        about("its whole share, if they are not enough; what is needed still is uncovered");
        left(missing(100, 0, 10, 0, 20, 30, 39), 1, 0, 0, 0, 0, 0, 0);
        left(missing(100, 0, 0, 0, 0, 0, 1), 99, 0, 0, 0, 0, 0, 0);
        left(missing(100, 0, 0, 0, 0, 0, 0), 100, 0, 0, 0, 0, 0, 0);
    }

    private static void otherSharesRoundedDown() {
        about("of each what is needed times its share, divided by all, rounded down, then 1 of each by rising numbers");
        left(missing(10, 0, 10, 0, 10, 10, 0), 0, 0, 6, 0, 7, 7, 0);
        left(missing(11, 0, 10, 0, 10, 10, 0), 0, 0, 6, 0, 6, 7, 0);
        left(missing(12, 0, 10, 0, 10, 10, 0), 0, 0, 6, 0, 6, 6, 0);
        left(missing(29, 0, 10, 0, 10, 10, 0), 0, 0, 0, 0, 0, 1, 0);
        left(missing(30, 0, 10, 0, 10, 10, 0), 0, 0, 0, 0, 0, 0, 0);
        left(missing(1, 0, 1, 0, 1, 1, 1), 0, 0, 0, 0, 1, 1, 1);
        left(missing(2, 0, 1, 0, 1, 1, 1), 0, 0, 0, 0, 0, 1, 1);
        left(missing(3, 0, 1, 0, 1, 1, 1), 0, 0, 0, 0, 0, 0, 1);
        left(missing(4, 0, 1, 0, 1, 1, 1), 0, 0, 0, 0, 0, 0, 0);
        about("who has none is passed over");
        left(missing(1, 0, 0, 0, 0, 5, 5), 0, 0, 0, 0, 0, 4, 5);
        left(missing(3, 0, 0, 0, 1, 0, 5), 0, 0, 0, 0, 0, 0, 3);
        left(missing(5, 0, 1, 0, 2, 3, 4), 0, 0, 0, 0, 1, 2, 2);
        left(missing(7, 0, 100, 0, 1, 1, 1), 0, 0, 93, 0, 1, 1, 1);
        about("its own is no other's");
        left(missing(10, 0, 10, 4, 10, 0, 0), 0, 0, 7, 0, 7, 0, 0);
    }

    private static void failedOnesPayToo() {
        about("the shares of the others, failed ones, too");
        NettingHall x = new NettingHall();
        loses(x, 1, 0, 10);
        fundsAll(x, 90, 100, 0, 0, 0);
        x.tick(4);
        is("its share", x.money(1, SHARE), 90);
        loses(x, 3, 0, 9);
        is("a second one", x.tick(4), 2);
        is("4 and 1", x.money(0, SHARE), 85);
        is("4, of the failed one", x.money(1, SHARE), 86);
        loses(x, 4, 0, 200);
        is("a third one", x.tick(4), 3);
        is("all", x.money(0, SHARE) + x.money(1, SHARE), 0);
        is("uncovered", x.money(HOUSE, UNCOVERED), 29);
        about("also one that is to be settled later, and is called now");
        NettingHall y = new NettingHall();
        loses(y, 1, 0, 10);
        loses(y, 2, 0, 10);
        fundsAll(y, 0, 0, 10, 0, 0);
        is("one has failed", y.tick(4), 1);
        is("by the share of the other one", y.money(2, SHARE), 0);
        is("which has none then", y.tick(1), 2);
        is("uncovered", y.money(HOUSE, UNCOVERED), 10);
    }

    private static void greatShares() {
        about("shares and amounts beyond 2147483647");
        NettingHall x = new NettingHall();
        trade(x, 1, 0, 0, 9999, 1000);
        x.split(0, 5);
        x.split(0, 5);
        x.split(0, 5);
        for (int i = 0; i < 90; i++) {
            x.fund(0, 1000000);
            x.fund(2, 1000000);
            x.fund(4, 1000000);
        }
        x.fund(2, 1);
        x.deposit(3, 9000);
        x.deposit(4, 9000);
        x.deposit(0, 1000000);
        trade(x, 3, 4, 0, 1, 1);
        x.tick(4);
        is("the house has 125000", x.position(HOUSE, 0), 125000);
        is("its cash", x.money(1, CASH), -9999000 - 9999 + 125000);
        long needed = 9999000 + 9999 - 125000;
        is("nothing is uncovered", x.sell(0, 3, 1) * 10 + x.money(HOUSE, UNCOVERED), 1250000);
        long all = 270000001;
        long first = needed * 90000000 / all;
        long second = needed * 90000001 / all;
        long ones = needed - 2 * first - second;
        is("of the first", 90000000 - x.money(0, SHARE), first + (ones > 0 ? 1 : 0));
        is("of the second", 90000001 - x.money(2, SHARE), second + (ones > 1 ? 1 : 0));
        is("of the last", 90000000 - x.money(4, SHARE), first);
        NettingHall y = new NettingHall();
        trade(y, 0, 1, 0, 100, 1);
        for (int i = 0; i < 50; i++) {
            trade(y, 0, 1, 0, 9999, 1000);
            y.fund(0, 1000000);
        }
        y.split(0, 5);
        y.split(0, 5);
        y.split(0, 5);
        trade(y, 3, 2, 0, 9999, 1);
        deposits(y, 9000, 2, 3);
        y.tick(4);
        long missing = -y.money(1, CASH);
        is("missing more than an int can tell", missing > Integer.MAX_VALUE ? 1 : 0, 1);
        is("uncovered", y.settle(), missing - 50000000);
        is("its cash", y.money(1, CASH), 50000000 - missing);
        replaysAll(y);
    }

    private static void whereItGoes() {
        about("all that is taken goes to the cash of the failed member, as far as that is missing, then to the house");
        int[][] edges = {{0, -802, -400}, {801, -1, -400}, {802, 0, -400}, {803, 0, -399}, {1201, 0, -1}, {1202, 0, 0},
            {1203, 0, 0}};
        for (int[] edge : edges) {
            NettingHall x = withFailed();
            if (edge[0] > 0) {
                x.fund(HOUSE, edge[0]);
            }
            long fees = x.money(HOUSE, CASH) + 1200;
            x.sell(0, 4, 40);
            is("its cash by " + edge[0], x.money(1, CASH), edge[1]);
            is("the house's cash", x.money(HOUSE, CASH) - fees, edge[2]);
            is("uncovered", x.money(HOUSE, UNCOVERED), Math.max(0, 1202 - edge[0]));
            is("the capital", x.money(HOUSE, CAPITAL), Math.max(0, edge[0] - 1202));
        }
    }

    private static void uncoveredAddsUp() {
        about("what was uncovered in all");
        NettingHall x = new NettingHall();
        is("nothing", x.money(HOUSE, UNCOVERED), 0);
        loses(x, 1, 0, 10);
        x.tick(4);
        is("first", x.money(HOUSE, UNCOVERED), 10);
        loses(x, 2, 0, 7);
        x.tick(4);
        is("second", x.money(HOUSE, UNCOVERED), 17);
        trade(x, 3, 0, 0, 90, 10);
        trade(x, 0, 4, 0, 80, 1);
        deposits(x, 500, 4);
        x.tick(4);
        is("by a settling alone", x.settle(), 100);
        is("third", x.money(HOUSE, UNCOVERED), 117);
    }

    private static void allFiveFail() {
        about("all members can fail, one behind the other");
        NettingHall x = new NettingHall();
        x.scenario(-50, 0, 0);
        x.scenario(50, 0, 0);
        trade(x, 0, 1, 0, 90, 10);
        trade(x, 2, 3, 0, 90, 10);
        trade(x, 4, 3, 0, 90, 1);
        x.order(4, 0, BUY, 1, 1, 0, DAY);
        is("the first", x.tick(50), 1);
        x.settle();
        is("the second makes the house's position 0", x.tick(1) * 100 + x.position(HOUSE, 0), 200);
        is("settled at once", x.member(1), SETTLED);
        is("the third", x.tick(50), 3);
        x.settle();
        is("the fourth", x.tick(50) * 100 + x.position(HOUSE, 0), 399);
        x.settle();
        is("the fifth", x.tick(50) * 100 + x.position(HOUSE, 0), 500);
        for (int m = 0; m < 5; m++) {
            is("member " + m, x.member(m), SETTLED);
        }
        is("no more", x.tick(50), 5);
        notNow("none is to be settled", () -> x.settle());
        is("its order is gone", x.best(0, BUY), -1);
        is("the house can still pay in", x.fund(HOUSE, 1), 1);
        is("and halt", x.split(0, 2), 1);
        replaysAll(x);
    }
}
