/** Clearing (promises 2, 3, 16 to 26): a test for each sentence of the document that names a boundary. */
public class ClearingEdges extends Checks {
    public static void main(String[] args) {
        aNewHall();
        depositsAddUp();
        sharesAddUp();
        theHouseStandsBetween();
        tradesAreNumbered();
        feesRoundDown();
        ratesByWhatWasTraded();
        ratesWithinOneOrder();
        whoPaysInAnAuction();
        whatTheHousePays();
        brokenWithinTwentyTicks();
        brokenOnce();
        brokenBehindSplits();
        whatDoesNotGoBack();
        brokenByThoseThatFailed();
        splitsAtMostThree();
        splitPricesAtLeastOne();
        splitOnlyWhatIsThere();
        splitQuantities();
        splitBooksStandAsTheyAre();
        splitPricesThatBecomeOne();
        splitStops();
        dividendsOnPositions();
        dividendsOfTheHouse();
        greatAmounts();
        scenariosAtMostFour();
        marginsRoundTowardZero();
        greatestLossAtLeastZero();
        worthOfAMember();
        end("the clearing");
    }

    private static void aNewHall() {
        about("an exchange without orders and money");
        NettingHall x = new NettingHall();
        is("a dividend", x.dividend(0, 1000), 0);
        is("a tick", x.tick(50), 0);
        is("an order's number", x.order(0, 0, BUY, 1, 1, 0, DAY), 0);
        is("the band of each", x.band(0, 1) + x.band(1, 1) + x.band(2, 1), 0);
        is("scenarios", x.scenario(0, 0, 0), 1);
        is("splits", x.split(2, 2), 1);
        is("a deposit", x.deposit(0, 1), 1);
        is("a share", x.fund(0, 1), 1);
        is("the capital", x.fund(HOUSE, 1), 1);
    }

    private static void depositsAddUp() {
        about("deposit: 1 to 1000000; returns the deposit then");
        NettingHall x = new NettingHall();
        long due = 0;
        for (int i = 0; i < 300; i++) {
            due += 1000000;
            is("each", x.deposit(0, 1000000), due);
        }
        is("the least", x.deposit(0, 1), due + 1);
        is("money", x.money(0, 1), due + 1);
        is("of another member", x.money(1, 1), 0);
        is("its cash", x.money(0, 0), 0);
        is("its share", x.money(0, 2), 0);
        is("its worth", x.worth(0), due + 1);
        NettingHall y = withFailed();
        notNow("if it has failed", () -> y.deposit(1, 1));
        y.settle();
        notNow("also when it is settled", () -> y.deposit(1, 1));
        is("another one", y.deposit(4, 1), 1);
    }

    private static void sharesAddUp() {
        about("fund: a member into its share, or the house (-1) into its capital");
        NettingHall x = new NettingHall();
        is("the greatest", x.fund(HOUSE, 1000000), 1000000);
        is("the least", x.fund(HOUSE, 1), 1000001);
        for (int m = 0; m < 5; m++) {
            is("of member " + m, x.fund(m, 10 + m), 10 + m);
        }
        is("again", x.fund(4, 1000000), 1000014);
        is("the capital stays", x.money(HOUSE, 2), 1000001);
        is("what was uncovered", x.money(HOUSE, 1), 0);
        is("no worth by that", x.worth(4), 0);
        NettingHall y = withFailed();
        notNow("if it has failed", () -> y.fund(1, 1));
        y.settle();
        notNow("also when it is settled", () -> y.fund(1, 1));
        is("the house can", y.fund(HOUSE, 5), 5);
    }

    private static void theHouseStandsBetween() {
        about("who buys gets the quantity, and its cash is less by price * quantity; who sells the other way round");
        NettingHall x = new NettingHall();
        trade(x, 0, 1, 2, 1, 1);
        is("bought", x.position(0, 2) * 100 + x.money(0, 0), 99);
        is("sold", x.position(1, 2) * 100 + x.money(1, 0), -99);
        is("the house has nothing", x.position(HOUSE, 2) + x.money(HOUSE, 0), 0);
        trade(x, 1, 0, 2, 1, 3);
        is("below 0", x.position(0, 2), -2);
        is("above 0", x.position(1, 2), 2);
        NettingHall y = new NettingHall();
        trade(y, 0, 1, 0, 9999, 1000);
        is("the greatest: 9999000 and a fee of 9999", y.money(0, 0), -9999000 - 9999);
        is("1999.8 are paid", y.money(1, 0), 9999000 + 1999);
        is("the house gets that and pays this", y.money(HOUSE, 0), 9999 - 1999);
    }

    private static void tradesAreNumbered() {
        about("trades are numbered from 0, at most 200");
        NettingHall x = new NettingHall();
        noSuch("none yet", () -> x.trade(0, 0));
        noSuch("none to break", () -> x.breakTrade(0));
        x.order(0, 0, SELL, 7, 205, 1, DAY);
        x.order(1, 0, BUY, 7, 205, 0, DAY);
        is("trades", x.trades(), 200);
        is("the first", x.trade(0, 2), 10);
        is("the last", x.trade(199, 2), 10);
        is("its quantity", x.trade(199, 1), 1);
        noSuch("the next", () -> x.trade(200, 0));
        noSuch("breaking it", () -> x.breakTrade(200));
        is("position", x.position(1, 0), 200);
        x.breakTrade(199);
        is("a broken one stays one", x.trades(), 200);
        x.order(2, 0, BUY, 7, 1, 0, DAY);
        is("and makes no room", x.trades(), 200);
        is("not broken, broken", x.trade(198, 3) * 10 + x.trade(199, 3), 1);
        is("who bought, and who sold: the greatest", who(4, 3), 43);
        is("the least", who(0, 1), 1);
    }

    private static int who(int buyer, int seller) {
        NettingHall x = new NettingHall();
        trade(x, buyer, seller, 0, 5, 5);
        return x.trade(0, 2);
    }

    private static void feesRoundDown() {
        about("price * quantity * its rate / 10000, rounded down; the other one price * quantity * 2 / 10000");
        int[][] edges = {{999, 1, 0, 0}, {1000, 1, 1, 0}, {1999, 1, 1, 0}, {2000, 1, 2, 0}, {4999, 1, 4, 0},
            {5000, 1, 5, 1}, {9999, 1, 9, 1}, {1, 1, 0, 0}, {1, 1000, 1, 0}, {3333, 3, 9, 1}, {5, 1000, 5, 1}};
        for (int[] edge : edges) {
            NettingHall x = new NettingHall();
            x.order(1, 0, SELL, edge[0], edge[1], 0, DAY);
            x.order(0, 0, BUY, edge[0], edge[1], 0, DAY);
            long value = (long) edge[0] * edge[1];
            is("who came pays, of " + value, -value - x.money(0, 0), edge[2]);
            is("the other one is paid", x.money(1, 0) - value, edge[3]);
            is("by the house", x.money(HOUSE, 0), edge[2] - edge[3]);
            NettingHall y = new NettingHall();
            y.order(1, 0, BUY, edge[0], edge[1], 0, DAY);
            y.order(0, 0, SELL, edge[0], edge[1], 0, DAY);
            is("also who sells", value - y.money(0, 0), edge[2]);
            is("to who buys", y.money(1, 0) + value, edge[3]);
        }
    }

    /** The fee of a trade of 10 at 1000 that a member's order makes, behind trades of so much in another instrument. */
    private static long feeBehind(int... quantities) {
        NettingHall x = new NettingHall();
        for (int quantity : quantities) {
            trade(x, 1, 0, 1, 1, quantity);
        }
        long before = x.money(0, 0);
        trade(x, 0, 2, 2, 1000, 10);
        return before - 10000 - x.money(0, 0);
    }

    private static void ratesByWhatWasTraded() {
        about("the rate is 10, from 1000 on 8, from 5000 on 5, by what the member has traded ahead of that");
        is("nothing", feeBehind(), 10);
        is("999", feeBehind(999), 10);
        is("1000", feeBehind(999, 1), 8);
        is("1000 at once", feeBehind(1000), 8);
        is("4999", feeBehind(1000, 1000, 1000, 1000, 999), 8);
        is("5000", feeBehind(1000, 1000, 1000, 1000, 999, 1), 5);
        is("6000", feeBehind(1000, 1000, 1000, 1000, 1000, 1000), 5);
        about("what was traded does not go back");
        NettingHall x = new NettingHall();
        trade(x, 0, 1, 1, 1, 1000);
        x.breakTrade(0);
        long before = x.money(0, 0);
        trade(x, 0, 2, 2, 1000, 10);
        is("8 of 10000", before - 10000 - x.money(0, 0), 8);
        about("in quantities, as they were traded");
        NettingHall y = new NettingHall();
        trade(y, 0, 1, 1, 10, 999);
        y.split(1, 5);
        before = y.money(0, 0);
        trade(y, 0, 2, 2, 1000, 10);
        is("10 of 10000", before - 10000 - y.money(0, 0), 10);
    }

    private static void ratesWithinOneOrder() {
        about("for each trade, by what was traded ahead of that");
        NettingHall x = new NettingHall();
        x.order(1, 0, SELL, 100, 600, 0, DAY);
        x.order(2, 0, SELL, 100, 400, 0, DAY);
        x.order(3, 0, SELL, 100, 500, 0, DAY);
        x.order(0, 0, BUY, 100, 1000, 0, DAY);
        is("60 and 40, by a rate of 10", x.money(0, 0), -100000 - 100);
        x.order(0, 0, BUY, 100, 500, 0, DAY);
        is("40, by a rate of 8", x.money(0, 0), -150000 - 140);
    }

    private static void whoPaysInAnAuction() {
        about("in an auction, who sells pays");
        for (int first = 0; first < 2; first++) {
            NettingHall x = new NettingHall();
            x.halt(0);
            x.order(first, 0, first, 1000, 10, 0, DAY);
            x.order(1 - first, 0, 1 - first, 1000, 10, 0, DAY);
            x.open(0);
            is("who sells, by the rate of 10", 10000 - x.money(1, 0), 10);
            is("who buys is paid", x.money(0, 0) + 10000, 2);
            is("the house", x.money(HOUSE, 0), 8);
        }
        NettingHall y = new NettingHall();
        trade(y, 1, 2, 1, 1, 1000);
        y.halt(0);
        y.order(1, 0, SELL, 1000, 10, 0, DAY);
        y.order(0, 0, BUY, 1000, 10, 0, DAY);
        long before = y.money(1, 0);
        y.open(0);
        is("by its own rate, 8", before + 10000 - y.money(1, 0), 8);
    }

    private static void whatTheHousePays() {
        about("the house gets and pays this");
        NettingHall x = new NettingHall();
        trade(x, 0, 1, 0, 9999, 1000);
        trade(x, 2, 3, 1, 9999, 7);
        trade(x, 4, 3, 2, 77, 13);
        long all = x.money(HOUSE, 0);
        for (int m = 0; m < 5; m++) {
            all += x.money(m, 0);
        }
        is("all cash together", all, 0);
    }

    private static void brokenWithinTwentyTicks() {
        about("a trade can be broken within 20 ticks");
        for (int ticks = 19; ticks <= 22; ticks++) {
            NettingHall x = new NettingHall();
            x.tick(5);
            trade(x, 0, 1, 0, 5, 5);
            x.deposit(0, 100);
            x.deposit(1, 100);
            x.tick(ticks);
            throwsIt("behind " + ticks, ticks <= 20 ? NOTHING : NOT_NOW, () -> x.breakTrade(0));
            is("broken", x.trade(0, 3), ticks <= 20 ? 1 : 0);
            is("position", x.position(0, 0), ticks <= 20 ? 0 : 5);
        }
    }

    private static void brokenOnce() {
        about("IllegalStateException if it was broken");
        NettingHall x = new NettingHall();
        trade(x, 0, 1, 0, 5000, 5);
        x.breakTrade(0);
        notNow("again", () -> x.breakTrade(0));
        is("cash and fees of both go back, once", x.money(0, 0), 0);
        is("of the other one", x.money(1, 0), 0);
        is("of the house", x.money(HOUSE, 0), 0);
        is("positions", x.position(0, 0) * 10 + x.position(1, 0), 0);
    }

    private static void brokenBehindSplits() {
        about("positions (times what the instrument was split by since then)");
        NettingHall x = new NettingHall();
        trade(x, 0, 1, 0, 100, 3);
        x.split(0, 2);
        trade(x, 0, 1, 0, 100, 3);
        x.split(0, 5);
        trade(x, 0, 1, 0, 100, 3);
        x.split(1, 3);
        is("30 and 15 and 3", x.position(0, 0), 48);
        x.breakTrade(1);
        is("less by 15", x.position(0, 0), 33);
        is("of both", x.position(1, 0), -33);
        is("cash goes back as it was paid", x.money(0, 0), -600);
        x.breakTrade(0);
        is("less by 30", x.position(0, 0), 3);
        x.breakTrade(2);
        is("by 3", x.position(0, 0), 0);
        is("cash", x.money(0, 0), 0);
    }

    private static void whatDoesNotGoBack() {
        about("orders, prices and what was traded do not");
        NettingHall x = new NettingHall();
        x.order(0, 0, SELL, 100, 5, 0, DAY);
        x.order(0, 0, SELL, 101, 5, 0, DAY);
        x.tie(0, 1);
        x.order(1, 0, BUY, 100, 9, 0, DAY);
        x.breakTrade(0);
        is("what sold", x.standing(0), 0);
        is("what was tied with it", x.standing(1), 0);
        is("what bought", x.standing(2), 41);
        is("the last price", x.instrument(0), 1000);
        is("trades", x.trades(), 1);
        is("position below 0 by what it sold since then", sold(), -5);
    }

    private static long sold() {
        NettingHall x = new NettingHall();
        trade(x, 0, 1, 0, 100, 5);
        trade(x, 2, 0, 0, 100, 5);
        x.breakTrade(0);
        return x.position(0, 0);
    }

    private static void brokenByThoseThatFailed() {
        about("IllegalStateException if one of both has failed");
        NettingHall x = withFailed();
        notNow("who bought has", () -> x.breakTrade(0));
        x.settle();
        notNow("also when it is settled", () -> x.breakTrade(0));
        x.breakTrade(1);
        is("others", x.trade(1, 3), 1);
        noSuch("no such trade", () -> x.breakTrade(2));
    }

    private static void splitsAtMostThree() {
        about("split by 2 to 5; IllegalStateException if it was split 3 times");
        NettingHall x = new NettingHall();
        outOfRange("by 1", () -> x.split(0, 1));
        outOfRange("by 6", () -> x.split(0, 6));
        is("once", x.split(0, 2), 1);
        is("twice", x.split(0, 5), 2);
        is("three times", x.split(0, 2), 3);
        notNow("a fourth time", () -> x.split(0, 2));
        outOfRange("a fourth time, out of range", () -> x.split(0, 1));
        is("another one", x.split(1, 5), 1);
        x.halt(2);
        is("one in AUCTION", x.split(2, 5), 1);
        is("it stays so", x.instrument(2), 1);
    }

    private static void splitPricesAtLeastOne() {
        about("prices become the n-th part, rounded down, at least 1");
        int[][] edges = {{1, 2, 1}, {2, 2, 1}, {3, 2, 1}, {4, 2, 2}, {4, 5, 1}, {5, 5, 1}, {9, 5, 1}, {10, 5, 2},
            {9999, 5, 1999}, {9999, 2, 4999}};
        for (int[] edge : edges) {
            NettingHall x = new NettingHall();
            trade(x, 0, 1, 0, edge[0], 1);
            x.order(0, 0, BUY, edge[0], 7, 0, DAY);
            x.order(0, 1, BUY, edge[0], 7, 0, DAY);
            x.split(0, edge[1]);
            is("of an order at " + edge[0] + " by " + edge[1], x.best(0, BUY), edge[2]);
            is("the last price", x.instrument(0), 10 * edge[2]);
            is("another instrument", x.best(1, BUY), edge[0]);
        }
    }

    private static void splitOnlyWhatIsThere() {
        about("the last price and the reference only if there are some");
        NettingHall x = new NettingHall();
        x.band(0, 1);
        x.split(0, 2);
        is("no last price", x.instrument(0), 0);
        trade(x, 0, 1, 0, 500, 1);
        is("no reference either: the first trade has no band", x.instrument(0), 5000);
        x.split(0, 5);
        trade(x, 0, 1, 0, 101, 1);
        is("1 away from 100", x.instrument(0), 1010);
        trade(x, 0, 1, 0, 102, 1);
        is("2 away from 100", x.instrument(0), 1011);
    }

    private static void splitQuantities() {
        about("positions, quantities and shown sizes of orders become n times what they were");
        NettingHall x = new NettingHall();
        trade(x, 0, 1, 0, 100, 4);
        x.order(0, 0, BUY, 50, 10, 3, DAY);
        x.order(1, 0, SELL, 50, 1, 0, NOW);
        x.split(0, 5);
        is("position", x.position(0, 0), 25);
        is("below 0", x.position(1, 0), -25);
        is("what is left", x.standing(2), 451);
        is("what it still showed", x.shown(0, BUY, 10), 10);
        x.order(1, 0, SELL, 10, 10, 0, NOW);
        is("shown anew", x.shown(0, BUY, 10), 15);
        x.order(1, 0, SELL, 10, 22, 0, NOW);
        is("15 and 7 of 35 are gone", x.shown(0, BUY, 10), 8);
        is("a cancel tells it", x.cancel(2), 13);
        NettingHall y = withFailed();
        y.split(0, 4);
        is("the house, too", y.position(HOUSE, 0), 80);
        is("at what it cost", soldAt(y, 15), 0);
        NettingHall z = new NettingHall();
        z.order(0, 0, BUY, 50, 1000, 1000, DAY);
        z.split(0, 5);
        z.split(0, 5);
        z.split(0, 5);
        is("the most", z.standing(0), 1250001);
        is("shown", z.shown(0, BUY, 1), 125000);
    }

    /** What the house's cash is less, behind a sale of instrument 0 to member 4, than 80 at a price. */
    private static long soldAt(NettingHall x, int price) {
        long before = x.money(HOUSE, 0);
        x.fund(HOUSE, 100000);
        x.sell(0, 4, price);
        return x.money(HOUSE, 0) - before - 80L * price;
    }

    private static void splitBooksStandAsTheyAre() {
        about("orders that could trade with one another then stand as they are");
        NettingHall x = new NettingHall();
        x.order(0, 0, BUY, 8, 3, 0, DAY);
        x.order(1, 0, SELL, 9, 3, 0, DAY);
        x.split(0, 5);
        is("both at 1", x.best(0, BUY) * 10 + x.best(0, SELL), 11);
        is("trades", x.trades(), 0);
        x.order(2, 0, BUY, 1, 1, 0, DAY);
        is("the next that comes trades", x.trades(), 1);
    }

    private static void splitPricesThatBecomeOne() {
        about("of prices that become one those go ahead that came, or showed anew behind a used up part, earlier");
        NettingHall x = new NettingHall();
        x.order(0, 0, BUY, 8, 1, 0, DAY);
        x.order(1, 0, BUY, 9, 4, 2, DAY);
        x.order(2, 0, BUY, 8, 1, 0, DAY);
        x.order(3, 0, SELL, 9, 2, 0, NOW);
        x.order(4, 0, BUY, 9, 1, 0, DAY);
        x.split(0, 2);
        int[] due = {3, 23, 13, 43};
        for (int who : due) {
            x.order(3, 0, SELL, 4, who == 13 ? 4 : 2, 0, NOW);
            if (who != 3) {
                is("in this order", x.trade(x.trades() - 1, 2), who);
            }
        }
        is("all are gone", x.best(0, BUY), -1);
        NettingHall y = new NettingHall();
        y.order(0, 0, SELL, 10, 9, 3, DAY);
        y.order(1, 0, SELL, 11, 1, 0, DAY);
        y.halt(0);
        y.order(2, 0, BUY, 10, 3, 0, DAY);
        y.open(0);
        y.split(0, 2);
        y.order(2, 0, BUY, 5, 1, 0, NOW);
        is("who showed anew by an opening stays ahead", y.trade(1, 2), 20);
    }

    private static void splitStops() {
        about("prices of stops");
        for (int last = 19; last <= 21; last++) {
            NettingHall x = new NettingHall();
            x.stop(0, 0, BUY, 50, 2, 104);
            x.stop(0, 0, SELL, 9000, 2, 104);
            x.split(0, 5);
            trade(x, 1, 2, 0, last, 1);
            is("104 became 20: buys, at " + last, x.standing(0), last >= 20 ? 101 : 102);
            is("104 became 20: sells, at " + last, x.standing(1), last <= 20 ? 101 : 102);
        }
        NettingHall y = new NettingHall();
        y.stop(0, 0, SELL, 4, 2, 1);
        y.split(0, 5);
        trade(y, 1, 2, 0, 1, 1);
        is("at least 1", y.standing(0), 101);
        is("its own price, too", y.best(0, SELL), 1);
    }

    private static void dividendsOnPositions() {
        about("a dividend is paid on positions to members, and by those that are below 0");
        NettingHall x = new NettingHall();
        is("without positions", x.dividend(0, 1), 0);
        trade(x, 0, 1, 0, 1, 1);
        trade(x, 2, 1, 0, 1, 2);
        long[] before = {x.money(0, 0), x.money(1, 0), x.money(2, 0), x.money(3, 0)};
        is("the least", x.dividend(0, 1), 3);
        is("the greatest", x.dividend(0, 1000), 3000);
        is("to one", x.money(0, 0) - before[0], 1001);
        is("by one", x.money(1, 0) - before[1], -3003);
        is("to another one", x.money(2, 0) - before[2], 2002);
        is("not to one without", x.money(3, 0) - before[3], 0);
        is("of another instrument nothing", x.dividend(1, 1000) + x.dividend(2, 1000), 0);
    }

    private static void dividendsOfTheHouse() {
        about("on positions of the house as well");
        NettingHall x = withFailed();
        long before = x.money(HOUSE, 0);
        is("the house has 20, member 3 has 5", x.dividend(0, 10), 250);
        is("it is paid", x.money(HOUSE, 0) - before, 200);
        is("who failed has none", x.money(1, 0), -2002 + 1200);
        NettingHall y = new NettingHall();
        trade(y, 0, 1, 0, 100, 20);
        trade(y, 3, 2, 0, 160, 5);
        y.deposit(2, 9000);
        y.tick(4);
        is("below 0", y.position(HOUSE, 0), -20);
        before = y.money(HOUSE, 0);
        is("who gets something", y.dividend(0, 10), 250);
        is("the house pays", y.money(HOUSE, 0) - before, -200);
    }

    private static void greatAmounts() {
        about("amounts beyond 2147483647");
        NettingHall x = new NettingHall();
        for (int i = 0; i < 20; i++) {
            trade(x, 0, 1, 0, 9999, 1000);
        }
        x.split(0, 5);
        x.split(0, 5);
        x.split(0, 5);
        is("position", x.position(0, 0), 2500000);
        is("a dividend", x.dividend(0, 1000), 2500000000L);
        trade(x, 2, 3, 0, 9999, 1);
        is("last price", x.instrument(0), 99990);
        x.scenario(-50, 0, 0);
        is("margin", x.margin(0), 2500000L * 9999 / 2);
        is("the other side has none", x.margin(1), 0);
        long cash = x.money(0, 0);
        is("worth", x.worth(0), cash + 2500000L * 9999);
        is("below 0", x.worth(1), x.money(1, 0) - 2500000L * 9999);
        x.deposit(3, 100);
        x.deposit(2, 100);
        is("the other one fails", x.tick(4), 1);
        is("the house has its position", x.position(HOUSE, 0), -2500000);
        is("its cash is below 0 by more than an int", x.money(1, 0) < -2147483648L ? 1 : 0, 1);
        is("it is settled by a sale", x.sell(0, 0, 9999), -2500000);
        is("what is missing is uncovered", x.money(HOUSE, 1), -x.money(1, 0));
        replaysAll(x);
    }

    private static void scenariosAtMostFour() {
        about("up to 4 scenarios, each -50 to 50");
        NettingHall x = new NettingHall();
        is("first", x.scenario(-50, 50, -50), 1);
        outOfRange("less", () -> x.scenario(-51, 0, 0));
        outOfRange("more", () -> x.scenario(0, 0, 51));
        is("second", x.scenario(50, -50, 50), 2);
        is("third, as the first", x.scenario(-50, 50, -50), 3);
        is("fourth", x.scenario(0, 0, 0), 4);
        notNow("fifth", () -> x.scenario(0, 0, 0));
        outOfRange("fifth out of range", () -> x.scenario(0, 51, 0));
    }

    private static void marginsRoundTowardZero() {
        about("position * last price * percent / 100, rounded toward 0, added up for each instrument");
        NettingHall x = new NettingHall();
        x.scenario(-1, -1, -1);
        x.scenario(1, 1, 1);
        int[] prices = {99, 199, 101};
        for (int i = 0; i < 3; i++) {
            trade(x, 0, 1, i, prices[i], 1);
        }
        is("0.99, 1.99 and 1.01 are 0, 1 and 1", x.margin(0), 2);
        is("the other way round, too", x.margin(1), 2);
        is("who has nothing", x.margin(2), 0);
        NettingHall y = new NettingHall();
        y.scenario(-1, 1, 0);
        trade(y, 0, 1, 0, 299, 1);
        trade(y, 0, 1, 1, 199, 1);
        is("-2 and 1: a gain makes up for a loss", y.margin(0), 1);
        is("2 and -1", y.margin(1), 0);
    }

    private static void greatestLossAtLeastZero() {
        about("the greatest loss, at least 0, that a scenario tells");
        NettingHall x = new NettingHall();
        trade(x, 0, 1, 0, 100, 10);
        is("without scenarios", x.margin(0), 0);
        x.scenario(10, 0, 0);
        is("a gain", x.margin(0), 0);
        is("a loss", x.margin(1), 100);
        x.scenario(-10, 0, 0);
        x.scenario(-20, 0, 0);
        x.scenario(-15, 0, 0);
        is("the greatest", x.margin(0), 200);
        is("of the other one", x.margin(1), 100);
        trade(x, 2, 3, 0, 50, 1);
        is("by the last price", x.margin(0), 100);
        NettingHall y = new NettingHall();
        y.scenario(-50, -50, -50);
        y.order(0, 0, BUY, 100, 10, 0, DAY);
        is("orders do not count", y.margin(0), 0);
    }

    private static void worthOfAMember() {
        about("its cash, its deposit, and position * last price of each instrument");
        NettingHall x = new NettingHall();
        trade(x, 0, 1, 0, 10, 5);
        trade(x, 0, 1, 2, 20, 5);
        trade(x, 1, 0, 1, 30, 5);
        is("at the prices paid", x.worth(0), 0);
        trade(x, 2, 3, 0, 11, 1);
        trade(x, 2, 3, 1, 33, 1);
        is("5 more, 15 less", x.worth(0), -10);
        is("of the other one", x.worth(1), 10);
        x.deposit(0, 7);
        x.fund(0, 1000);
        is("with its deposit, without its share", x.worth(0), -3);
        about("the last price is 0 until something was traded");
        NettingHall y = new NettingHall();
        y.deposit(0, 7);
        y.order(0, 0, BUY, 9999, 1000, 0, DAY);
        is("instrument", y.instrument(0), 0);
        is("worth", y.worth(0), 7);
    }
}
