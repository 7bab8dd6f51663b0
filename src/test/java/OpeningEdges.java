/** Openings, spreads, and the most trades (promises 8, 13 to 15): a test for each sentence that names a boundary. */
public class OpeningEdges extends Checks {
    public static void main(String[] args) {
        mostCanBeTraded();
        leastDifference();
        nearestToTheReference();
        lowestPrice();
        pricesOfStandingOrders();
        whatIsCounted();
        nothingIndicated();
        greatIndications();
        firstAgainstFirst();
        untilSoMuchIsTraded();
        pairsOfOneMember();
        laterNumberGoes();
        tiesInOpenings();
        showsAnewInItsPlace();
        referenceAndLastPrice();
        thenContinuous();
        halts();
        spreadsAtTheirPrice();
        spreadsByWhatBothShow();
        spreadsGoFirstThenSecond();
        spreadsAndTies();
        spreadsAndOwnOrders();
        spreadsAndBands();
        spreadsOfEmptyBooks();
        ordersAtTheLastTrade();
        kindsAtTheLastTrade();
        spreadsAtTheLastTrades();
        openingsAtTheLastTrade();
        stopsAtTheLastTrade();
        end("openings and spreads");
    }

    private static final int INDICATED = 1000000;

    private static NettingHall auction() {
        NettingHall x = new NettingHall();
        x.halt(0);
        return x;
    }

    private static void buys(NettingHall x, int member, int price, int quantity) {
        x.order(member, 0, BUY, price, quantity, 0, DAY);
    }

    private static void sells(NettingHall x, int member, int price, int quantity) {
        x.order(member, 0, SELL, price, quantity, 0, DAY);
    }

    private static void opensAt(NettingHall x, int price, int quantity) {
        is("indicated", x.indicated(0), (long) INDICATED * price + quantity);
        is("opened", x.open(0), quantity);
        is("at", x.instrument(0), 10 * price);
    }

    private static void mostCanBeTraded() {
        about("the price is found at which the most can be traded");
        NettingHall x = auction();
        buys(x, 0, 110, 3);
        buys(x, 1, 105, 4);
        buys(x, 2, 100, 9);
        sells(x, 3, 95, 5);
        sells(x, 4, 104, 3);
        sells(x, 4, 106, 9);
        opensAt(x, 104, 7);
        about("what buys at that price or more, against what sells at it or less");
        NettingHall y = auction();
        buys(y, 0, 100, 5);
        sells(y, 1, 100, 5);
        opensAt(y, 100, 5);
        NettingHall z = auction();
        buys(z, 0, 99, 5);
        sells(z, 1, 100, 5);
        is("one apart", z.indicated(0), 0);
        is("nothing is traded", z.open(0), 0);
        is("both stand", z.standing(0) + z.standing(1), 51 + 51);
    }

    private static void leastDifference() {
        about("of those that are as good, the one with the least difference of both sums");
        NettingHall x = auction();
        sells(x, 1, 90, 10);
        buys(x, 0, 100, 10);
        buys(x, 2, 95, 1);
        sells(x, 3, 96, 2);
        is("90 and 95: 11 against 10, 96 and 100: 10 against 12", x.indicated(0), 90L * INDICATED + 10);
        buys(x, 2, 99, 2);
        is("96: 12 against 12 is more", x.indicated(0), 96L * INDICATED + 12);
        buys(x, 2, 92, 4);
        sells(x, 3, 93, 1);
        is("also if another price differs less where less can be traded", x.indicated(0), 96L * INDICATED + 12);
        NettingHall y = auction();
        sells(y, 1, 50, 5);
        buys(y, 0, 60, 5);
        buys(y, 0, 51, 1);
        sells(y, 1, 59, 2);
        is("of 1, 1, 2 and 2 the first is the lowest of the least", y.indicated(0), 50L * INDICATED + 5);
        buys(y, 2, 50, 9);
        is("then 51 alone differs by 1", y.indicated(0), 51L * INDICATED + 5);
    }

    private static void nearestToTheReference() {
        about("then the one nearest to the reference");
        int[][] edges = {{80, 90}, {90, 90}, {94, 90}, {95, 90}, {96, 100}, {100, 100}, {200, 100}};
        for (int[] edge : edges) {
            NettingHall x = new NettingHall();
            trade(x, 3, 4, 0, edge[0], 1);
            x.halt(0);
            buys(x, 0, 100, 5);
            sells(x, 1, 90, 5);
            is("by the reference " + edge[0], x.indicated(0), (long) INDICATED * edge[1] + 5);
        }
        NettingHall x = new NettingHall();
        trade(x, 3, 4, 0, 100, 1);
        trade(x, 3, 4, 0, 80, 1);
        x.halt(0);
        buys(x, 0, 100, 5);
        sells(x, 1, 80, 5);
        is("that is not the last price", x.indicated(0), 100L * INDICATED + 5);
        about("the reference (0 if there is none)");
        NettingHall y = auction();
        buys(y, 0, 9999, 5);
        sells(y, 1, 1, 5);
        opensAt(y, 1, 5);
        y.halt(0);
        buys(y, 0, 9999, 5);
        sells(y, 1, 1, 5);
        opensAt(y, 1, 5);
    }

    private static void lowestPrice() {
        about("then the lowest");
        NettingHall x = new NettingHall();
        trade(x, 3, 4, 0, 95, 1);
        x.halt(0);
        buys(x, 0, 99, 5);
        sells(x, 1, 91, 5);
        is("4 away both", x.indicated(0), 91L * INDICATED + 5);
        buys(x, 0, 96, 1);
        sells(x, 1, 94, 1);
        is("1 away both", x.indicated(0), 94L * INDICATED + 6);
        x.open(0);
        is("that is the reference then", x.instrument(0), 940);
    }

    private static void pricesOfStandingOrders() {
        about("of the prices of its standing orders");
        NettingHall x = auction();
        buys(x, 0, 100, 5);
        sells(x, 1, 90, 5);
        x.order(2, 1, BUY, 89, 5, 0, DAY);
        x.stop(2, 0, BUY, 80, 5, 200);
        x.cancel(x.order(2, 0, BUY, 70, 5, 0, DAY));
        is("not of other books, of those that wait or are gone", x.indicated(0), 90L * INDICATED + 5);
        buys(x, 2, 9, 5);
        is("what is far away is not as good", x.indicated(0), 90L * INDICATED + 5);
        x.cancel(1);
        is("nothing can be traded", x.indicated(0), 0);
        NettingHall y = new NettingHall();
        trade(y, 3, 4, 0, 95, 1);
        y.halt(0);
        buys(y, 0, 100, 5);
        sells(y, 1, 90, 5);
        y.order(2, 1, BUY, 95, 5, 0, DAY);
        y.order(2, 2, SELL, 95, 5, 0, DAY);
        y.stop(2, 0, SELL, 95, 5, 95);
        y.cancel(y.order(2, 0, BUY, 95, 5, 0, DAY));
        is("also if such a price is the reference", y.indicated(0), 90L * INDICATED + 5);
        opensAt(y, 90, 5);
    }

    private static void whatIsCounted() {
        about("hidden parts as well, pairs of one member counted");
        NettingHall x = auction();
        x.order(0, 0, BUY, 100, 50, 1, DAY);
        x.order(0, 0, SELL, 100, 40, 1, DAY);
        is("indicated", x.indicated(0), 100L * INDICATED + 40);
        is("but a pair is not traded", x.open(0), 0);
        is("the later one goes", x.standing(1), 0);
        is("the earlier one stands", x.standing(0), 501);
        is("by its shown size", x.shown(0, BUY, 100), 1);
    }

    private static void nothingIndicated() {
        about("0 if that is 0");
        NettingHall x = new NettingHall();
        is("without orders", x.indicated(0), 0);
        buys(x, 0, 100, 50);
        is("one side", x.indicated(0), 0);
        sells(x, 0, 101, 50);
        is("both sides that do not meet", x.indicated(0), 0);
        is("another instrument", x.indicated(1), 0);
        NettingHall y = auction();
        sells(y, 0, 1, 1000);
        is("the other side alone", y.indicated(0), 0);
        is("an opening of that", y.open(0), 0);
    }

    private static void greatIndications() {
        about("1000000 * the price + the quantity");
        NettingHall x = auction();
        buys(x, 0, 9999, 1000);
        sells(x, 1, 9999, 1000);
        opensAt(x, 9999, 1000);
        NettingHall y = auction();
        for (int i = 0; i < 60; i++) {
            buys(y, 0, 9, 1000);
            sells(y, 1, 9, 1000);
        }
        y.split(0, 5);
        y.split(0, 5);
        y.split(0, 5);
        is("60 times 1000, split by 125, at 1", y.indicated(0), INDICATED + 7500000L);
        is("all of it is traded", y.open(0), 7500000);
        is("position", y.position(0, 0), 7500000);
        replaysAll(y);
    }

    private static void firstAgainstFirst() {
        about("in the order of the book, first against first, as much as both have, hidden parts as well");
        NettingHall x = auction();
        x.order(0, 0, BUY, 100, 4, 1, DAY);
        x.order(1, 0, BUY, 101, 3, 0, DAY);
        x.order(2, 0, BUY, 100, 2, 0, DAY);
        x.order(3, 0, SELL, 100, 5, 1, DAY);
        x.order(4, 0, SELL, 99, 2, 0, DAY);
        x.order(1, 0, SELL, 100, 2, 0, DAY);
        is("indicated", x.indicated(0), 100L * INDICATED + 9);
        is("opened", x.open(0), 9);
        int[][] due = {{14, 2}, {13, 1}, {3, 4}, {21, 2}};
        is("trades", x.trades(), due.length);
        for (int i = 0; i < due.length; i++) {
            is("who, of trade " + i, x.trade(i, 2), due[i][0]);
            is("how much, of trade " + i, x.trade(i, 1), due[i][1]);
            is("at one price", x.trade(i, 0), 100);
        }
        is("both sides are empty", x.best(0, BUY) + x.best(0, SELL), -2);
    }

    private static void untilSoMuchIsTraded() {
        about("until so much is traded, or one side has no more");
        NettingHall x = auction();
        buys(x, 0, 100, 5);
        buys(x, 1, 100, 5);
        sells(x, 2, 100, 7);
        sells(x, 3, 101, 7);
        is("opened", x.open(0), 7);
        is("the first has nothing left", x.standing(0), 0);
        is("the second has", x.standing(1), 31);
        is("a price that is not good for it", x.standing(3), 71);
        NettingHall y = auction();
        buys(y, 0, 100, 5);
        sells(y, 0, 100, 3);
        sells(y, 1, 100, 1);
        is("at most", y.indicated(0), 100L * INDICATED + 4);
        is("one side has no more ahead of that", y.open(0), 1);
        is("what is left", y.standing(0), 41);
    }

    private static void pairsOfOneMember() {
        about("a pair of one member is not traded: the later one of both goes in place of that");
        NettingHall x = auction();
        sells(x, 0, 100, 2);
        sells(x, 1, 100, 2);
        buys(x, 0, 100, 1);
        buys(x, 0, 100, 1);
        buys(x, 2, 100, 3);
        is("at most", x.indicated(0), 100L * INDICATED + 4);
        is("opened", x.open(0), 3);
        is("one that buys goes", x.standing(2), 0);
        is("the next one that buys, too", x.standing(3), 0);
        is("first of the rest", x.trade(0, 2), 20);
        is("then the other", x.trade(1, 2) * 10 + x.trade(1, 1), 211);
        is("it has 1 left", x.standing(1), 11);
        is("nobody was suspicious by that", x.member(0), 0);
        NettingHall y = auction();
        sells(y, 0, 100, 2);
        buys(y, 0, 100, 2);
        buys(y, 1, 99, 2);
        is("nothing can be traded behind that", y.open(0), 0);
        is("no reference by that", y.instrument(0), 0);
    }

    private static void laterNumberGoes() {
        about("the later one of both (with the greater number)");
        NettingHall x = new NettingHall();
        x.stop(0, 0, BUY, 100, 5, 50);
        x.halt(0);
        sells(x, 0, 100, 3);
        buys(x, 1, 100, 1);
        sells(x, 2, 99, 1);
        x.open(0);
        is("the stop woke, and is ahead: its own went as it came", x.standing(1), 0);
        is("it stands", x.standing(0), 51);
        x.halt(0);
        sells(x, 0, 100, 3);
        is("nothing is opened", x.open(0), 0);
        is("the greater number goes", x.standing(4), 0);
        is("the stop stays", x.standing(0), 51);
        NettingHall y = new NettingHall();
        y.stop(0, 0, BUY, 90, 5, 50);
        sells(y, 1, 95, 2);
        buys(y, 2, 95, 1);
        is("it woke behind those", y.standing(0), 51);
        y.halt(0);
        sells(y, 0, 90, 5);
        is("nothing is opened", y.open(0), 0);
        is("by its number it is the earlier one", y.standing(0), 51);
        is("the other one went", y.standing(3), 0);
    }

    private static void tiesInOpenings() {
        about("when one of two tied orders trades something, the other one goes at once, also in an opening");
        NettingHall x = auction();
        buys(x, 0, 105, 3);
        buys(x, 0, 104, 3);
        sells(x, 1, 100, 5);
        x.tie(0, 1);
        is("indicated", x.indicated(0), 100L * INDICATED + 5);
        is("the tied one that buys trades no more", x.open(0), 3);
        is("it is gone", x.standing(1), 0);
        is("what sells is left", x.standing(2), 21);
        NettingHall y = auction();
        sells(y, 0, 95, 3);
        sells(y, 0, 96, 3);
        buys(y, 1, 100, 5);
        y.tie(0, 1);
        is("the tied one that sells trades no more", y.open(0), 3);
        is("it is gone", y.standing(1), 0);
        is("what buys is left", y.standing(2), 21);
        NettingHall z = auction();
        sells(z, 0, 95, 3);
        z.stop(0, 1, BUY, 5, 5, 5);
        buys(z, 1, 100, 5);
        z.order(1, 2, SELL, 7, 5, 2, DAY);
        sells(z, 3, 101, 1);
        buys(z, 3, 90, 1);
        z.tie(0, 1);
        z.tie(3, 2);
        z.tie(4, 5);
        is("of both sides", z.open(0), 3);
        is("one that waits", z.standing(1), 0);
        is("one of another instrument", z.standing(3), 0);
        is("not of those that did not trade", z.standing(4) + z.standing(5), 22);
        about("one that goes otherwise leaves the other one untied");
        NettingHall w = auction();
        buys(w, 0, 100, 3);
        sells(w, 0, 100, 3);
        buys(w, 0, 90, 3);
        w.tie(1, 2);
        is("a pair of one member", w.open(0) * 100 + w.standing(1), 0);
        is("what was tied stays", w.standing(2), 31);
        w.tie(0, 2);
        is("and can be tied", w.standing(0), 31);
    }

    private static void showsAnewInItsPlace() {
        about("who has something left stands where it stood, and shows anew");
        NettingHall x = new NettingHall();
        x.order(0, 0, BUY, 100, 20, 5, DAY);
        x.order(1, 0, BUY, 100, 20, 5, DAY);
        x.order(2, 0, SELL, 100, 3, 0, DAY);
        is("2 and 5 are shown", x.shown(0, BUY, 100), 7);
        x.halt(0);
        sells(x, 2, 100, 10);
        is("opened", x.open(0), 10);
        is("5 and 5 are shown", x.shown(0, BUY, 100), 10);
        is("7 are left", x.standing(0), 71);
        x.order(2, 0, SELL, 100, 1, 0, NOW);
        is("it is still the first", x.standing(0), 61);
        x.halt(0);
        sells(x, 2, 100, 4);
        x.open(0);
        is("2 are left, that is less than it showed", x.shown(0, BUY, 100), 2 + 5);
        NettingHall y = auction();
        y.order(0, 0, SELL, 100, 9, 4, DAY);
        y.order(1, 0, BUY, 100, 4, 0, DAY);
        y.open(0);
        is("a part that is just used up", y.shown(0, SELL, 100), 4);
        sells(y, 2, 100, 5);
        y.order(1, 0, BUY, 100, 1, 0, NOW);
        is("stands where it stood", y.standing(0), 41);
    }

    private static void referenceAndLastPrice() {
        about("if something was traded, that price is the reference and the last price");
        NettingHall x = auction();
        x.band(0, 10);
        buys(x, 0, 200, 1);
        sells(x, 1, 200, 1);
        opensAt(x, 200, 1);
        trade(x, 0, 1, 0, 220, 1);
        trade(x, 0, 1, 0, 221, 1);
        is("20 away is the most", x.instrument(0), 2201);
        x.cancel(4);
        x.cancel(5);
        is("an opening without trades", x.open(0), 0);
        is("leaves the last price", x.instrument(0), 2200);
        trade(x, 0, 1, 0, 221, 1);
        is("and the reference", x.instrument(0), 2201);
    }

    private static void thenContinuous() {
        about("then the instrument is CONTINUOUS; orders that could trade with one another stand as they are");
        NettingHall x = auction();
        buys(x, 0, 105, 5);
        sells(x, 0, 100, 5);
        sells(x, 1, 105, 5);
        is("at 100 the sums are the same", x.indicated(0), 100L * INDICATED + 5);
        is("its pair goes", x.open(0), 0);
        is("CONTINUOUS", x.instrument(0), 0);
        is("one that buys at 105", x.best(0, BUY), 105);
        is("one that sells at 105", x.best(0, SELL), 105);
        x.order(2, 0, BUY, 105, 1, 0, NOW);
        is("the next that comes trades with it", x.standing(2), 41);
        about("(then stops are looked at)");
        NettingHall y = auction();
        y.stop(3, 0, SELL, 100, 2, 100);
        y.stop(3, 0, SELL, 101, 2, 99);
        buys(y, 0, 100, 5);
        sells(y, 1, 100, 4);
        is("traded by the opening itself", y.open(0), 4);
        is("a stop woke and traded with what was left", y.trades(), 2);
        is("the rest of it stands", y.standing(0), 11);
        is("another one waits", y.standing(1), 22);
    }

    private static void halts() {
        about("halt: it is in AUCTION then; IllegalStateException if it is");
        NettingHall x = new NettingHall();
        notNow("open of one that trades", () -> x.open(0));
        x.halt(0);
        notNow("halt", () -> x.halt(0));
        is("others trade", x.instrument(1) + x.instrument(2), 0);
        x.open(0);
        notNow("open again", () -> x.open(0));
        x.halt(0);
        is("halted again", x.instrument(0), 1);
        NettingHall y = new NettingHall();
        y.band(0, 1);
        trade(y, 0, 1, 0, 100, 1);
        trade(y, 0, 1, 0, 102, 1);
        notNow("one that the band has halted", () -> y.halt(0));
        is("it can be opened", y.open(0), 1);
    }

    /** What one of each that is sold at 50 and bought at 40 is to a spread at a price. */
    private static void spreadsAtTheirPrice() {
        about("the price of the first that sells the one, less that of the first that buys the other, is at most");
        int[][] edges = {{50, 40, 9, 0}, {50, 40, 10, 1}, {50, 40, 11, 1}, {40, 50, -10, 1}, {40, 50, -11, 0},
            {50, 50, 0, 1}, {50, 50, -1, 0}, {9999, 1, 9998, 1}, {9999, 1, 9997, 0}, {1, 9999, -9998, 1}};
        for (int[] edge : edges) {
            NettingHall x = new NettingHall();
            x.order(0, 0, SELL, edge[0], 5, 0, DAY);
            x.order(1, 1, BUY, edge[1], 5, 0, DAY);
            is("at " + edge[2], x.spread(2, 0, 1, 1, edge[2]), edge[3]);
            is("both or none", x.trades(), 2 * edge[3]);
        }
    }

    private static void spreadsByWhatBothShow() {
        about("as much as is left and both show");
        NettingHall x = new NettingHall();
        x.order(0, 0, SELL, 50, 10, 4, DAY);
        x.order(1, 1, BUY, 40, 7, 3, DAY);
        is("spread", x.spread(2, 0, 1, 9, 10), 7);
        int[] due = {3, 1, 2, 1};
        is("trades", x.trades(), 2 * due.length);
        for (int i = 0; i < due.length; i++) {
            is("first", x.trade(2 * i, 1), due[i]);
            is("second", x.trade(2 * i + 1, 1), due[i]);
        }
        is("what is left of the first", x.standing(0), 31);
        is("is shown", x.shown(0, SELL, 50), 1);
        is("of the second nothing", x.standing(1), 0);
        about("what is not traded goes");
        is("no order stands by that", x.best(0, BUY) + x.best(1, SELL), -2);
        is("exactly what is left", x.spread(2, 1, 2, 1, 9998), 0);
        about("a used up part stands behind all others, of either side");
        NettingHall y = new NettingHall();
        y.order(0, 0, SELL, 50, 4, 2, DAY);
        y.order(1, 0, SELL, 50, 4, 0, DAY);
        y.order(3, 1, BUY, 40, 9, 0, DAY);
        is("spread", y.spread(2, 0, 1, 5, 10), 5);
        is("of the first 2", y.standing(0), 21);
        is("then of the other one 3", y.standing(1), 11);
    }

    private static void spreadsGoFirstThenSecond() {
        about("both trades together, that of the first one ahead");
        NettingHall x = new NettingHall();
        x.order(0, 2, SELL, 50, 10, 0, DAY);
        x.order(1, 0, BUY, 40, 7, 0, DAY);
        x.spread(2, 2, 0, 5, 10);
        is("who bought", x.trade(0, 2), 20);
        is("at", x.trade(0, 0), 50);
        is("who sold", x.trade(1, 2), 12);
        is("at", x.trade(1, 0), 40);
        is("last price of the first", x.instrument(2), 500);
        is("of the second", x.instrument(0), 400);
        is("of another one", x.instrument(1), 0);
        is("it pays for both", x.money(2, 0), -250 + 200);
        about("the rate of the second counts the first");
        NettingHall y = new NettingHall();
        y.order(0, 0, SELL, 100, 999, 0, DAY);
        y.order(1, 1, BUY, 100, 999, 0, DAY);
        y.spread(2, 0, 1, 1, 0);
        y.spread(2, 0, 1, 998, 0);
        is("1, 1, 998 of 99800 and, at 1000, 8 of it", y.money(2, 0), -99 - 79);
    }

    private static void spreadsAndTies() {
        about("also if both orders are tied with one another; both go then");
        NettingHall x = new NettingHall();
        x.order(0, 0, SELL, 50, 5, 2, DAY);
        x.order(0, 1, BUY, 40, 5, 0, DAY);
        x.tie(0, 1);
        is("as much as both show, once", x.spread(1, 0, 1, 5, 10), 2);
        is("both trades", x.trades(), 2);
        is("both go", x.standing(0) + x.standing(1), 0);
        about("when one of them trades something, the other one goes at once");
        NettingHall y = new NettingHall();
        y.order(0, 0, SELL, 50, 2, 0, DAY);
        y.order(0, 0, SELL, 50, 5, 0, DAY);
        y.order(1, 1, BUY, 40, 2, 0, DAY);
        y.order(1, 1, BUY, 40, 5, 0, DAY);
        y.order(2, 0, SELL, 50, 5, 0, DAY);
        y.order(2, 1, BUY, 40, 5, 0, DAY);
        y.tie(0, 1);
        y.tie(2, 3);
        is("spread", y.spread(3, 0, 1, 5, 10), 5);
        is("the tied one of the first went", y.standing(1), 0);
        is("of the second, too", y.standing(3), 0);
        is("then the next ones traded", y.standing(4) + y.standing(5), 21 + 21);
    }

    private static void spreadsAndOwnOrders() {
        about("orders of the same member that come first, their prices counted as well, are taken away instead");
        NettingHall x = new NettingHall();
        x.order(1, 0, SELL, 50, 500, 1, DAY);
        x.order(0, 0, SELL, 51, 5, 0, DAY);
        x.order(2, 1, BUY, 40, 5, 0, DAY);
        is("its own at 10, too far for 9", x.spread(1, 0, 1, 1, 9), 0);
        is("stays", x.standing(0), 5001);
        is("at 10", x.spread(1, 0, 1, 1, 10), 0);
        is("it goes, all of it", x.standing(0), 0);
        is("the next one is too far", x.standing(1), 51);
        is("at 11", x.spread(1, 0, 1, 1, 11), 1);
        x.order(1, 1, BUY, 41, 3, 0, DAY);
        is("one that buys goes, too", x.spread(1, 0, 1, 4, 11), 4);
        is("gone", x.standing(3), 0);
        x.order(1, 0, SELL, 45, 3, 0, DAY);
        is("behind its own there is none that buys", x.spread(1, 0, 1, 4, 9998), 0);
        is("so it stays", x.standing(4), 31);
        is("nobody was suspicious by that", x.member(1), 0);
    }

    private static void spreadsAndBands() {
        about("bands do not matter for spreads");
        NettingHall x = new NettingHall();
        x.band(0, 1);
        x.band(1, 1);
        trade(x, 0, 1, 0, 100, 1);
        trade(x, 0, 1, 1, 100, 1);
        x.order(0, 0, SELL, 900, 1, 0, DAY);
        x.order(0, 1, BUY, 3, 1, 0, DAY);
        is("far away", x.spread(2, 0, 1, 1, 897), 1);
        is("both are CONTINUOUS", x.instrument(0) + x.instrument(1), 9030);
    }

    private static void spreadsOfEmptyBooks() {
        about("a spread without another side");
        NettingHall x = new NettingHall();
        is("both are empty", x.spread(0, 0, 1, 1000, 9998), 0);
        x.order(1, 0, SELL, 1, 5, 0, DAY);
        is("one is", x.spread(0, 0, 1, 1000, 9998), 0);
        is("nothing is taken", x.standing(0), 51);
        x.order(1, 1, SELL, 1, 5, 0, DAY);
        is("the wrong side", x.spread(0, 0, 1, 1000, 9998), 0);
        x.order(1, 1, BUY, 1, 5, 0, DAY);
        is("its own went there", x.standing(1), 0);
        is("now", x.spread(0, 0, 1, 1000, 9998), 5);
    }

    // ---- at most 200 trades

    /** A hall with so many trades, all of member 3 with member 4 in instrument 2. */
    private static NettingHall withTrades(int count) {
        NettingHall x = new NettingHall();
        x.order(4, 2, SELL, 10, 250, 1, DAY);
        x.order(3, 2, BUY, 10, count, 0, NOW);
        is("trades", x.trades(), count);
        return x;
    }

    private static void ordersAtTheLastTrade() {
        about("at most 200 trades: what comes stops trading there, as if there were no other side");
        NettingHall x = withTrades(199);
        sells(x, 0, 50, 2);
        sells(x, 1, 51, 2);
        x.order(2, 0, BUY, 51, 3, 1, DAY);
        is("the last one", x.trades(), 200);
        is("is made", x.trade(199, 0), 50);
        is("the rest stands", x.standing(4), 11);
        is("with others that it could trade with", x.best(0, SELL), 51);
        noSuch("there is no next one", () -> x.trade(200, 0));
        x.order(1, 0, BUY, 51, 3, 0, DAY);
        is("its own stays, too", x.standing(3), 21);
        is("positions stay", x.position(2, 0), 2);
        about("at 200 trades there is no band that halts");
        NettingHall y = new NettingHall();
        y.band(0, 1);
        trade(y, 0, 1, 0, 100, 1);
        y.order(4, 2, SELL, 10, 250, 1, DAY);
        y.order(3, 2, BUY, 10, 199, 0, NOW);
        sells(y, 0, 500, 2);
        buys(y, 1, 500, 2);
        is("it stands", y.standing(5), 21);
        is("CONTINUOUS", y.instrument(0), 1000);
        replaysAll(x);
    }

    private static void kindsAtTheLastTrade() {
        about("orders stand, or go, as if there were no other side; ALL and REST are asked as ever");
        NettingHall x = withTrades(200);
        sells(x, 0, 50, 2);
        is("NOW", x.order(1, 0, BUY, 50, 2, 0, NOW), 3);
        is("goes", x.standing(3), 0);
        is("ALL that could", x.order(1, 0, BUY, 50, 2, 0, ALL), 4);
        is("goes", x.standing(4), 0);
        is("ALL that could not", x.order(1, 0, BUY, 50, 3, 0, ALL), -1);
        is("REST that would", x.order(1, 0, BUY, 50, 3, 0, REST), -1);
        is("REST that would not", x.order(1, 0, BUY, 49, 3, 0, REST), 5);
        is("stands", x.standing(5), 31);
        is("DAY", x.order(1, 0, BUY, 50, 3, 0, DAY), 6);
        is("stands", x.standing(6), 31);
        is("and what it met", x.standing(2), 21);
        is("trades", x.trades(), 200);
    }

    private static void spreadsAtTheLastTrades() {
        about("two for a spread");
        for (int count = 197; count <= 200; count++) {
            NettingHall x = withTrades(count);
            x.order(0, 0, SELL, 50, 9, 1, DAY);
            x.order(1, 1, BUY, 50, 9, 0, DAY);
            is("at " + count, x.spread(2, 0, 1, 5, 0), count <= 198 ? 1 : 0);
            is("trades", x.trades(), count <= 198 ? count + 2 : count);
            x.order(2, 0, SELL, 49, 9, 0, DAY);
            x.spread(2, 0, 1, 5, 0);
            is("its own stays if there is no room for two", x.standing(4), 91);
        }
        NettingHall x = withTrades(198);
        x.order(0, 0, SELL, 50, 9, 0, DAY);
        x.order(2, 0, SELL, 49, 9, 0, DAY);
        x.order(1, 1, BUY, 50, 9, 0, DAY);
        is("with room for two", x.spread(2, 0, 1, 5, 0), 5);
        is("its own goes", x.standing(3), 0);
    }

    private static void openingsAtTheLastTrade() {
        about("what is opened stops trading there");
        NettingHall x = withTrades(199);
        x.halt(0);
        sells(x, 0, 50, 2);
        sells(x, 1, 50, 2);
        buys(x, 2, 50, 4);
        is("indicated as ever", x.indicated(0), 50L * INDICATED + 4);
        is("one trade", x.open(0), 2);
        is("that price is the last", x.instrument(0), 500);
        is("what is left stands", x.standing(4), 21);
        is("and the other", x.standing(3), 21);
        x.halt(0);
        x.order(1, 0, BUY, 51, 1, 0, DAY);
        is("nothing any more", x.open(0), 0);
        is("a pair of one member stays", x.standing(3) + x.standing(5), 21 + 11);
        is("CONTINUOUS", x.instrument(0), 500);
    }

    private static void stopsAtTheLastTrade() {
        about("a stop that wakes behind the last trade stands");
        NettingHall x = withTrades(199);
        x.stop(0, 0, BUY, 60, 5, 50);
        sells(x, 1, 50, 2);
        sells(x, 1, 55, 2);
        buys(x, 2, 50, 2);
        is("200", x.trades(), 200);
        is("it woke and stands", x.standing(2), 51);
        is("what it met stands", x.standing(4), 21);
        x.stop(0, 0, BUY, 60, 5, 50);
        x.order(2, 0, BUY, 60, 2, 0, DAY);
        is("nothing trades, and nothing wakes", x.standing(6), 52);
    }
}
