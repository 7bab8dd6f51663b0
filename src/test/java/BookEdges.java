/** Orders and books (promises 4 to 15): a test for each sentence of the document that names a boundary. */
public class BookEdges extends Checks {
    public static void main(String[] args) {
        ordersAreNumbered();
        shownSizes();
        betterPricesAhead();
        earlierOnesAhead();
        usedUpPartsShowAnew();
        priceOrABetterOne();
        asMuchAsBothHave();
        ownOrdersGo();
        ownOrdersWhateverTheBand();
        kindsThatStandOrGo();
        allOrNothing();
        restOrNothing();
        refusedIsNothing();
        bandsRoundDown();
        bandOfZero();
        noReferenceNoBand();
        whatTheReferenceIs();
        inPlaceOfThat();
        stopsWakeAtTheirPrice();
        stopsWakeBehindTrades();
        lowestNumberFirst();
        stopsOfInstrumentsThatTrade();
        stopsAsOrders();
        tiesGoAtOnce();
        tiesGoOtherwise();
        auctionsTake();
        end("the books");
    }

    private static void ordersAreNumbered() {
        about("orders are numbered from 0, at most 120");
        NettingHall x = new NettingHall();
        for (int i = 0; i < 117; i++) {
            is("number", x.order(i % 5, i % 3, BUY, 1 + i, 1, 0, i % 2 == 0 ? DAY : REST), i);
        }
        is("a refused one has none", x.order(3, 0, SELL, 1, 5, 0, REST), -1);
        is("a stop has one", x.stop(0, 0, BUY, 5, 1, 9), 117);
        is("one that goes at once has one", x.order(0, 1, BUY, 5, 1, 0, NOW), 118);
        is("one that is cancelled stays one", x.cancel(118 - 2), 1);
        is("the last", x.order(0, 1, BUY, 5, 1, 0, DAY), 119);
        notNow("one more", () -> x.order(0, 1, BUY, 5, 1, 0, DAY));
        notNow("one more stop", () -> x.stop(0, 1, BUY, 5, 1, 9));
        notNow("one more that would go", () -> x.order(0, 1, BUY, 5, 1, 0, NOW));
        notNow("one more that would be refused", () -> x.order(0, 1, BUY, 5, 1, 0, ALL));
        x.cancel(0);
        notNow("one that is gone makes no room", () -> x.order(0, 1, BUY, 5, 1, 0, DAY));
        is("the last stands", x.standing(119), 11);
        noSuch("the next", () -> x.standing(120));
        is("a spread is no order", x.spread(0, 0, 1, 5, 9), 0);
        replaysAll(x);
    }

    private static void shownSizes() {
        about("the shown size (0: all of it), or what is left if that is less");
        NettingHall x = new NettingHall();
        x.order(0, 0, SELL, 10, 5, 0, DAY);
        is("0 shows all", x.shown(0, SELL, 10), 5);
        x.order(0, 0, SELL, 11, 5, 5, DAY);
        is("all of it shows all", x.shown(0, SELL, 11), 5);
        x.order(0, 0, SELL, 12, 5, 4, DAY);
        is("one less", x.shown(0, SELL, 12), 4);
        x.order(0, 0, SELL, 13, 5, 1, DAY);
        is("the least", x.shown(0, SELL, 13), 1);
        x.order(1, 0, BUY, 12, 14, 0, NOW);
        is("1 is left of 5, that is less than 4", x.shown(0, SELL, 12), 1);
        is("standing", x.standing(2), 11);
        x.order(2, 1, BUY, 50, 7, 0, DAY);
        x.order(3, 1, SELL, 50, 10, 4, DAY);
        is("3 are left of 10 when it comes to stand", x.shown(1, SELL, 50), 3);
        x.order(2, 1, BUY, 40, 6, 0, DAY);
        x.order(3, 1, SELL, 40, 10, 4, DAY);
        is("4 are left, that is as much", x.shown(1, SELL, 40), 4);
        x.order(2, 2, BUY, 40, 5, 0, DAY);
        x.order(3, 2, SELL, 40, 10, 4, DAY);
        is("5 are left, that is more", x.shown(2, SELL, 40), 4);
    }

    private static void betterPricesAhead() {
        about("better prices ahead: greater ones of those that buy, lower ones of those that sell");
        NettingHall x = new NettingHall();
        is("an empty book", x.best(0, BUY), -1);
        x.order(0, 0, BUY, 1, 1, 0, DAY);
        x.order(0, 0, BUY, 3, 1, 0, DAY);
        x.order(0, 0, BUY, 2, 1, 0, DAY);
        is("the greatest", x.best(0, BUY), 3);
        x.order(0, 0, SELL, 9998, 1, 0, DAY);
        x.order(0, 0, SELL, 9997, 1, 0, DAY);
        x.order(0, 0, SELL, 9999, 1, 0, DAY);
        is("the lowest", x.best(0, SELL), 9997);
        x.order(1, 0, SELL, 1, 3, 0, DAY);
        is("first", x.trade(0, 0), 3);
        is("second", x.trade(1, 0), 2);
        is("third", x.trade(2, 0), 1);
        is("the side is empty", x.best(0, BUY), -1);
        x.order(1, 0, BUY, 9999, 3, 0, DAY);
        is("first", x.trade(3, 0), 9997);
        is("second", x.trade(4, 0), 9998);
        is("third", x.trade(5, 0), 9999);
        is("that one too", x.best(0, SELL), -1);
    }

    private static void earlierOnesAhead() {
        about("of one price those that came earlier");
        for (int side = 0; side < 2; side++) {
            NettingHall x = new NettingHall();
            x.stop(3, 0, side, 50, 1, 50);
            x.order(0, 0, side, 50, 1, 0, DAY);
            x.order(1, 0, side, 50, 1, 0, REST);
            x.order(2, 0, 1 - side, 50, 1, 0, NOW);
            is("the first came first", x.standing(1), 0);
            is("the stop woke by that", x.standing(0), 11);
            x.order(2, 0, 1 - side, 50, 1, 0, NOW);
            is("it came behind the second", x.standing(2), 0);
            is("though its number is lower", x.standing(0), 11);
        }
    }

    private static void usedUpPartsShowAnew() {
        about("an order whose shown part is used up, and that has more, shows anew, and stands behind all others");
        NettingHall x = new NettingHall();
        x.order(0, 0, SELL, 10, 5, 2, DAY);
        x.order(1, 0, SELL, 10, 2, 0, DAY);
        x.order(2, 0, SELL, 10, 3, 1, DAY);
        x.order(3, 0, BUY, 10, 1, 0, NOW);
        is("a part that is not used up", x.shown(0, SELL, 10), 4);
        x.order(3, 0, BUY, 10, 1, 0, NOW);
        is("keeps its place", x.trade(1, 2), 30);
        is("used up, it shows anew", x.shown(0, SELL, 10), 5);
        x.order(3, 0, BUY, 10, 9, 0, DAY);
        is("the second", x.trade(2, 2), 31);
        is("the third shows 1", x.trade(3, 2) * 10 + x.trade(3, 1), 321);
        is("the first again", x.trade(4, 2) * 10 + x.trade(4, 1), 302);
        is("the third again", x.trade(5, 2) * 10 + x.trade(5, 1), 321);
        is("the first, its last one", x.trade(6, 2) * 10 + x.trade(6, 1), 301);
        is("the third, its last one", x.trade(7, 2) * 10 + x.trade(7, 1), 321);
        is("no more", x.trades(), 8);
        is("what is left stands", x.shown(0, BUY, 10), 1);
        NettingHall y = new NettingHall();
        y.order(0, 0, BUY, 10, 7, 3, DAY);
        y.order(1, 0, BUY, 9, 7, 0, DAY);
        y.order(2, 0, SELL, 9, 8, 0, DAY);
        is("alone at its price it is first again", y.trade(1, 0), 10);
        is("3, 3 and the last 1", y.trade(2, 1), 1);
        is("then the next price", y.trade(3, 0), 9);
        is("trades", y.trades(), 4);
    }

    private static void priceOrABetterOne() {
        about("as long as that has its price or a better one for it");
        NettingHall x = new NettingHall();
        x.order(0, 0, SELL, 50, 5, 0, DAY);
        x.order(1, 0, BUY, 49, 1, 0, NOW);
        is("one less", x.trades(), 0);
        x.order(1, 0, BUY, 50, 1, 0, NOW);
        is("its price", x.trades(), 1);
        x.order(1, 0, BUY, 51, 1, 0, NOW);
        is("a better one", x.trades(), 2);
        is("at the price of the standing one", x.trade(1, 0), 50);
        x.order(2, 1, BUY, 50, 5, 0, DAY);
        x.order(1, 1, SELL, 51, 1, 0, NOW);
        is("one more", x.trades(), 2);
        x.order(1, 1, SELL, 50, 1, 0, NOW);
        is("its price", x.trades(), 3);
        x.order(1, 1, SELL, 49, 1, 0, NOW);
        is("a better one", x.trades(), 4);
        is("at the price of the standing one", x.trade(3, 0), 50);
    }

    private static void asMuchAsBothHave() {
        about("as much as both have, of the standing one what it shows");
        int[] quantities = {1, 4, 5, 6, 1000};
        for (int quantity : quantities) {
            NettingHall x = new NettingHall();
            x.order(0, 0, SELL, 50, 5, 0, DAY);
            x.order(1, 0, BUY, 50, quantity, 0, DAY);
            is("traded", x.trade(0, 1), Math.min(5, quantity));
            is("one trade", x.trades(), 1);
            is("what stood", x.standing(0), quantity < 5 ? 10 * (5 - quantity) + 1 : 0);
            is("what came", x.standing(1), quantity > 5 ? 10 * (quantity - 5) + 1 : 0);
            is("what is not left is not shown", x.shown(0, SELL, 50), Math.max(0, 5 - quantity));
        }
        NettingHall x = new NettingHall();
        x.order(0, 0, SELL, 50, 5, 3, DAY);
        x.order(1, 0, BUY, 50, 4, 1, DAY);
        is("what it shows", x.trade(0, 1), 3);
        is("the one that came trades hidden parts as well", x.trade(1, 1), 1);
    }

    private static void ownOrdersGo() {
        about("if that is of the same member, it is taken away instead, all of it, and the next one is looked at");
        NettingHall x = new NettingHall();
        x.order(0, 0, SELL, 50, 900, 1, DAY);
        x.order(0, 0, SELL, 50, 1, 0, DAY);
        x.order(1, 0, SELL, 51, 2, 0, DAY);
        x.order(0, 0, SELL, 51, 3, 0, DAY);
        x.order(0, 0, SELL, 52, 4, 0, DAY);
        is("comes", x.order(0, 0, BUY, 51, 3, 0, DAY), 5);
        is("hidden parts as well", x.standing(0), 0);
        is("the next one", x.standing(1), 0);
        is("then it trades", x.standing(2), 0);
        is("the one behind that goes, too", x.standing(3), 0);
        is("not what is out of its price", x.standing(4), 41);
        is("its own quantity is not less by that", x.standing(5), 11);
        is("one trade", x.trades(), 1);
        x.order(1, 1, SELL, 50, 2, 0, DAY);
        x.order(0, 1, SELL, 50, 2, 0, DAY);
        x.order(0, 1, BUY, 50, 2, 0, DAY);
        is("one that is not reached stays", x.standing(7), 21);
        x.order(0, 1, BUY, 49, 2, 0, DAY);
        is("one that is not good for it stays", x.standing(7), 21);
        x.order(0, 1, BUY, 50, 2, 0, NOW);
        is("NOW takes it away, too", x.standing(7), 0);
        is("and goes", x.standing(10), 0);
        x.order(2, 2, BUY, 7, 1, 0, DAY);
        x.order(2, 2, SELL, 7, 1, 0, DAY);
        is("one that sells takes one that buys away", x.standing(11), 0);
        is("and stands", x.standing(12), 11);
    }

    private static void ownOrdersWhateverTheBand() {
        about("taken away whatever the band");
        NettingHall x = new NettingHall();
        x.band(0, 1);
        trade(x, 0, 1, 0, 100, 1);
        x.order(2, 0, SELL, 500, 3, 0, DAY);
        x.order(3, 0, SELL, 501, 3, 0, DAY);
        x.order(2, 0, BUY, 500, 1, 0, DAY);
        is("it went", x.standing(2), 0);
        is("still CONTINUOUS", x.instrument(0), 1000);
        is("it stands", x.standing(4), 11);
        x.order(2, 0, BUY, 501, 1, 0, DAY);
        is("another one's price is too far", x.instrument(0), 1001);
    }

    private static void kindsThatStandOrGo() {
        about("if the order is of the kind DAY or REST and something is left, it stands");
        int[] kinds = {DAY, NOW, ALL, REST};
        for (int kind : kinds) {
            NettingHall x = new NettingHall();
            int number = x.order(0, 0, BUY, 50, 5, 0, kind);
            is("by an empty book: kind " + kind, number, kind == ALL ? -1 : 0);
            if (kind != ALL) {
                is("it stands", x.standing(0), kind == NOW ? 0 : 51);
            }
            is("shown", x.shown(0, BUY, 50), kind == DAY || kind == REST ? 5 : 0);
        }
        NettingHall x = new NettingHall();
        x.order(0, 0, SELL, 50, 5, 0, DAY);
        x.order(1, 0, BUY, 50, 5, 0, DAY);
        is("nothing is left", x.standing(1), 0);
        is("and nothing stands", x.best(0, BUY), -1);
        x.order(0, 0, SELL, 50, 5, 0, DAY);
        x.order(1, 0, BUY, 50, 6, 0, NOW);
        is("NOW: what is not traded at once goes", x.standing(3), 0);
        is("traded", x.position(1, 0), 10);
    }

    private static void allOrNothing() {
        about("ALL: as a whole, by what stands of other members at its price or better ones, hidden parts as well");
        for (int quantity = 9; quantity <= 11; quantity++) {
            NettingHall x = new NettingHall();
            x.order(0, 0, SELL, 49, 4, 1, DAY);
            x.order(1, 0, SELL, 50, 6, 2, DAY);
            x.order(2, 0, SELL, 50, 9, 0, DAY);
            x.order(1, 0, SELL, 51, 9, 0, DAY);
            is("ALL of " + quantity, x.order(2, 0, BUY, 50, quantity, 0, ALL), quantity <= 10 ? 4 : -1);
            is("traded", x.position(2, 0), quantity <= 10 ? quantity : 0);
            is("its own", x.standing(2), quantity <= 10 ? 0 : 91);
        }
        NettingHall x = new NettingHall();
        x.order(2, 0, SELL, 50, 9, 0, DAY);
        x.order(0, 0, SELL, 50, 4, 0, DAY);
        is("of 5", x.order(2, 0, BUY, 50, 5, 0, ALL), -1);
        is("of 4, behind its own", x.order(2, 0, BUY, 50, 4, 0, ALL), 2);
        is("its own went", x.standing(0), 0);
        is("it is traded", x.position(2, 0), 4);
        about("ALL: bands do not matter");
        NettingHall y = new NettingHall();
        trade(y, 0, 1, 0, 100, 1);
        y.band(0, 10);
        y.order(0, 0, SELL, 110, 3, 0, DAY);
        y.order(0, 0, SELL, 111, 3, 0, DAY);
        is("it comes", y.order(1, 0, BUY, 111, 6, 0, ALL), 4);
        is("within the band it trades", y.position(1, 0), -1 + 3);
        is("AUCTION", y.instrument(0), 1101);
        is("what is left goes", y.standing(4), 0);
        about("ALL: tied orders go while it trades");
        NettingHall z = new NettingHall();
        z.order(0, 0, SELL, 50, 3, 0, DAY);
        z.order(0, 0, SELL, 51, 3, 0, DAY);
        z.tie(0, 1);
        is("both are asked", z.order(1, 0, BUY, 51, 6, 0, ALL), 2);
        is("one is traded", z.position(1, 0), 3);
        is("what is left goes", z.standing(2), 0);
    }

    private static void restOrNothing() {
        about("REST: does not come in if it would trade at once");
        NettingHall x = new NettingHall();
        x.order(0, 0, SELL, 50, 4, 0, DAY);
        is("its price", x.order(1, 0, BUY, 50, 1, 0, REST), -1);
        is("a better one", x.order(1, 0, BUY, 51, 1, 0, REST), -1);
        is("one less", x.order(1, 0, BUY, 49, 1, 0, REST), 1);
        is("the other side, its price", x.order(2, 0, SELL, 49, 1, 0, REST), -1);
        is("the other side, between", x.order(2, 0, SELL, 50, 1, 0, REST), 2);
        is("against its own alone", x.order(1, 0, SELL, 49, 5, 0, REST), 3);
        is("that goes", x.standing(1), 0);
        is("it stands", x.standing(3), 51);
        about("REST: by what stands of other members, also behind its own");
        NettingHall y = new NettingHall();
        y.order(0, 0, SELL, 50, 4, 0, DAY);
        y.order(1, 0, SELL, 50, 4, 0, DAY);
        is("refused", y.order(0, 0, BUY, 50, 1, 0, REST), -1);
        is("its own stays", y.standing(0), 41);
        is("at 49", y.order(0, 0, BUY, 49, 1, 0, REST), 2);
        about("REST: bands do not matter");
        NettingHall z = new NettingHall();
        trade(z, 0, 1, 0, 100, 1);
        z.band(0, 1);
        z.order(0, 0, SELL, 200, 3, 0, DAY);
        is("refused", z.order(1, 0, BUY, 200, 3, 0, REST), -1);
        is("CONTINUOUS", z.instrument(0), 1000);
        about("REST: in AUCTION it stands without trading");
        z.halt(0);
        is("it comes in", z.order(1, 0, BUY, 200, 3, 0, REST), 3);
        is("and stands", z.standing(3), 31);
    }

    private static void refusedIsNothing() {
        about("a refused order has no number, and nothing happens");
        NettingHall x = refusing();
        is("ALL", x.order(2, 0, BUY, 50, 900, 0, ALL), -1);
        is("REST", x.order(2, 0, BUY, 50, 1, 0, REST), -1);
        is("REST that sells", x.order(2, 0, SELL, 40, 1, 0, REST), -1);
        is("all is as it was", stateOf(x), stateOf(refusing()));
        is("messages", x.lose(0), refusing().lose(0));
        is("the next number", x.order(2, 0, BUY, 1, 1, 0, DAY), 4);
        is("its own are not cancelled", x.member(2), 0);
        replaysAll(x);
    }

    private static NettingHall refusing() {
        NettingHall x = new NettingHall();
        x.order(2, 0, SELL, 50, 4, 1, DAY);
        x.order(0, 0, SELL, 50, 4, 1, DAY);
        x.order(1, 0, BUY, 40, 4, 1, DAY);
        x.stop(3, 0, BUY, 50, 5, 1);
        return x;
    }

    /** Lets two members trade at a price behind a first trade at another one, and tells whether it was in the band. */
    private static boolean isInBand(int reference, int band, int price) {
        NettingHall x = new NettingHall();
        x.band(0, band);
        trade(x, 0, 1, 0, reference, 1);
        trade(x, 2, 3, 0, price, 1);
        boolean traded = x.trades() == 2;
        is("AUCTION in place of that", x.instrument(0), traded ? 10 * price : 10 * reference + 1);
        return traded;
    }

    private static void inBand(int reference, int band, int price, boolean due) {
        is(price + " by " + band + " percent of " + reference, isInBand(reference, band, price) ? 1 : 0, due ? 1 : 0);
    }

    private static void bandsRoundDown() {
        about("more than the band, in percent of its reference, rounded down, away from that");
        int[][] edges = {{100, 5, 5}, {119, 5, 5}, {120, 5, 6}, {99, 50, 49}, {19, 5, 0}, {20, 5, 1}, {99, 1, 0},
            {199, 1, 1}, {9999, 50, 4999}, {3, 50, 1}, {2, 50, 1}, {1, 50, 0}};
        for (int[] edge : edges) {
            int away = edge[2];
            if (edge[0] + away < 9999) {
                inBand(edge[0], edge[1], edge[0] + away, true);
                inBand(edge[0], edge[1], edge[0] + away + 1, false);
            }
            inBand(edge[0], edge[1], edge[0] - away, true);
            if (edge[0] - away > 1) {
                inBand(edge[0], edge[1], edge[0] - away - 1, false);
            }
        }
    }

    private static void bandOfZero() {
        about("a band of 0: none");
        inBand(1, 0, 9999, true);
        inBand(9999, 0, 1, true);
        NettingHall x = new NettingHall();
        x.band(0, 1);
        trade(x, 0, 1, 0, 100, 1);
        is("the band was", x.band(0, 0), 1);
        trade(x, 0, 1, 0, 9000, 1);
        is("it trades", x.trades(), 2);
        x.band(0, 1);
        trade(x, 0, 1, 1, 10, 1);
        trade(x, 0, 1, 1, 90, 1);
        is("a band is of its instrument alone", x.trades(), 4);
    }

    private static void noReferenceNoBand() {
        about("while there is no trade, there is no band");
        NettingHall x = new NettingHall();
        x.band(0, 1);
        x.order(0, 0, SELL, 10, 1, 0, DAY);
        x.order(0, 0, SELL, 5000, 1, 0, DAY);
        x.order(1, 0, BUY, 5000, 2, 0, DAY);
        is("the first trade has none, the second has", x.trades(), 1);
        is("AUCTION", x.instrument(0), 101);
    }

    private static void whatTheReferenceIs() {
        about("the reference: while there is no opening, the price of the first trade");
        NettingHall x = new NettingHall();
        trade(x, 0, 1, 0, 100, 1);
        trade(x, 0, 1, 0, 150, 1);
        x.breakTrade(0);
        x.band(0, 10);
        trade(x, 0, 1, 0, 110, 1);
        is("not the last, and also if it was broken", x.trades(), 3);
        x.halt(0);
        is("an opening by which nothing was traded", x.open(0), 0);
        trade(x, 0, 1, 0, 111, 1);
        is("does not count", x.instrument(0), 1101);
        about("the reference: the price of the last opening by which something was traded");
        is("opened at 111", x.open(0), 1);
        trade(x, 0, 1, 0, 122, 1);
        is("11 away from 111", x.instrument(0), 1220);
        trade(x, 0, 1, 0, 99, 1);
        is("12 away from 111", x.instrument(0), 1221);
        x.open(0);
        trade(x, 0, 1, 0, 108, 1);
        is("9 away from 99", x.instrument(0), 1080);
        about("the reference: a spread's trade is a trade, too");
        NettingHall y = new NettingHall();
        y.band(0, 10);
        y.order(0, 0, SELL, 50, 1, 0, DAY);
        y.order(0, 1, BUY, 50, 1, 0, DAY);
        y.spread(1, 0, 1, 1, 0);
        trade(y, 2, 3, 0, 56, 1);
        is("6 away from 50", y.instrument(0), 501);
    }

    private static void inPlaceOfThat() {
        about("does not happen: AUCTION in place of that; DAY stands with what is left, otherwise that goes");
        int[] kinds = {DAY, NOW, ALL};
        for (int kind : kinds) {
            NettingHall x = new NettingHall();
            trade(x, 0, 1, 0, 100, 1);
            x.band(0, 2);
            x.order(0, 0, BUY, 98, 2, 0, DAY);
            x.order(0, 0, BUY, 97, 5, 0, DAY);
            x.stop(3, 0, SELL, 98, 1, 98);
            is("kind " + kind, x.order(1, 0, SELL, 97, 6, 3, kind), 5);
            is("AUCTION", x.instrument(0), 981);
            is("what was traded", x.trades(), 2);
            is("the standing one stays", x.standing(3), 51);
            is("what is left", x.standing(5), kind == DAY ? 41 : 0);
            is("is shown", x.shown(0, SELL, 97), kind == DAY ? 3 : 0);
            is("stops of an instrument in AUCTION wait", x.standing(4), 12);
        }
    }

    private static void stopsWakeAtTheirPrice() {
        about("a stop that buys wakes at its price or higher, one that sells at it or lower");
        for (int last = 99; last <= 101; last++) {
            NettingHall x = new NettingHall();
            x.stop(0, 0, BUY, 1, 5, 100);
            x.stop(1, 0, SELL, 9999, 5, 100);
            trade(x, 2, 3, 0, last, 1);
            is("that buys, at " + last, x.standing(0), last >= 100 ? 51 : 52);
            is("that sells, at " + last, x.standing(1), last <= 100 ? 51 : 52);
        }
        NettingHall x = new NettingHall();
        x.stop(0, 0, BUY, 1, 5, 1);
        x.stop(0, 0, SELL, 9999, 5, 9999);
        is("while the last price is 0 none wakes", x.standing(0) + x.standing(1), 52 + 52);
        trade(x, 2, 3, 0, 1, 1);
        is("the least", x.standing(0), 51);
        is("the greatest", x.standing(1), 51);
    }

    private static void stopsWakeBehindTrades() {
        about("behind each call by which something traded");
        NettingHall x = new NettingHall();
        trade(x, 2, 3, 0, 100, 1);
        x.stop(0, 0, BUY, 1, 5, 50);
        is("its price was reached ahead of it", x.standing(2), 52);
        x.order(2, 0, SELL, 200, 1, 0, DAY);
        x.order(2, 0, BUY, 200, 1, 0, DAY);
        is("own orders that go are no trade", x.standing(2), 52);
        x.breakTrade(0);
        x.tick(1);
        x.halt(0);
        x.open(0);
        is("an opening without trades", x.standing(2), 52);
        x.stop(0, 0, SELL, 9999, 5, 60);
        x.split(0, 2);
        is("a split changes the last price, but nothing traded", x.standing(2) + x.standing(5), 102 + 102);
        is("50 is more than 25", x.instrument(0), 500);
        x.order(3, 0, SELL, 100, 1, 0, NOW);
        is("a trade", x.trades(), 2);
        is("wakes it", x.standing(2), 101);
        is("100 is more than 30", x.standing(5), 102);
        about("behind a spread");
        NettingHall y = new NettingHall();
        y.stop(4, 0, SELL, 9999, 5, 10);
        y.stop(4, 1, SELL, 9999, 5, 10);
        y.stop(4, 2, SELL, 9999, 5, 10);
        y.order(0, 0, SELL, 10, 1, 0, DAY);
        y.order(0, 1, BUY, 10, 1, 0, DAY);
        y.spread(1, 0, 1, 1, 0);
        is("of the first", y.standing(0), 51);
        is("of the second", y.standing(1), 51);
        is("not of another one", y.standing(2), 52);
        about("behind an opening");
        y.halt(2);
        y.order(0, 2, SELL, 10, 1, 0, DAY);
        y.order(1, 2, BUY, 10, 1, 0, DAY);
        is("in AUCTION nothing wakes", y.standing(2), 52);
        y.open(2);
        is("it wakes", y.standing(2), 51);
    }

    private static void lowestNumberFirst() {
        about("as long as there are stops that wake, the one with the lowest number comes in, and so on");
        NettingHall x = new NettingHall();
        x.stop(0, 0, BUY, 103, 1, 103);
        x.stop(1, 0, BUY, 103, 1, 102);
        x.stop(2, 0, BUY, 101, 1, 100);
        x.stop(3, 0, SELL, 90, 1, 103);
        x.order(4, 0, SELL, 100, 1, 0, DAY);
        x.order(4, 0, SELL, 101, 1, 0, DAY);
        x.order(4, 0, SELL, 102, 1, 0, DAY);
        x.order(4, 0, SELL, 103, 1, 0, DAY);
        x.order(3, 0, BUY, 95, 2, 0, DAY);
        x.order(2, 0, BUY, 94, 1, 0, DAY);
        x.order(0, 0, BUY, 100, 1, 0, NOW);
        is("2 wakes at 100, and buys at 101", x.trade(1, 2), 24);
        is("then 3 wakes, as 101 is less than 103: its own goes", x.standing(8), 0);
        is("and it sells at 94", x.trade(2, 0), 94);
        is("at that neither 0 nor 1 wakes", x.standing(0) + x.standing(1), 12 + 12);
        is("trades", x.trades(), 3);
        x.order(2, 0, BUY, 102, 1, 0, NOW);
        is("1 wakes at 102, and buys at 103", x.trade(4, 2) * 1000 + x.trade(4, 0), 14103);
        is("then 0 wakes, and stands", x.standing(0), 11);
    }

    private static void stopsOfInstrumentsThatTrade() {
        about("stops of instruments that are CONTINUOUS and traded in this call");
        NettingHall x = new NettingHall();
        x.band(0, 1);
        trade(x, 0, 1, 0, 100, 1);
        x.stop(2, 0, BUY, 200, 1, 100);
        x.stop(3, 0, BUY, 201, 1, 100);
        x.order(1, 0, SELL, 200, 5, 0, DAY);
        trade(x, 0, 4, 0, 100, 1);
        is("the first one wakes and meets the band", x.standing(2), 11);
        is("AUCTION", x.instrument(0), 1001);
        is("the second waits", x.standing(3), 12);
        trade(x, 0, 4, 1, 100, 1);
        is("also when another one trades", x.standing(3), 12);
        is("opened", x.open(0), 1);
        is("behind the opening", x.standing(3), 0);
        is("it traded", x.trades(), 5);
    }

    private static void stopsAsOrders() {
        about("it comes in as an order of the kind DAY, keeps its number, and all of it is shown");
        NettingHall x = new NettingHall();
        x.stop(0, 0, BUY, 105, 10, 100);
        x.order(0, 0, SELL, 101, 3, 0, DAY);
        x.order(1, 0, SELL, 101, 4, 1, DAY);
        x.order(1, 0, SELL, 106, 4, 1, DAY);
        trade(x, 2, 3, 0, 100, 1);
        is("its own went", x.standing(1), 0);
        is("it traded 4 parts", x.trades(), 5);
        is("the rest stands by its number", x.standing(0), 61);
        is("all of it is shown", x.shown(0, BUY, 105), 6);
        is("at its price", x.best(0, BUY), 105);
        is("the next number", x.order(4, 1, BUY, 1, 1, 0, DAY), 6);
        is("its member pays the fee", x.money(0, 0), -404);
        NettingHall y = new NettingHall();
        y.stop(0, 0, BUY, 1000, 1, 1000);
        y.order(1, 0, SELL, 1000, 1, 0, DAY);
        trade(y, 2, 3, 1, 1000, 1);
        is("another instrument", y.standing(0), 12);
        y.order(1, 0, SELL, 1000, 1, 0, DAY);
        y.order(2, 0, BUY, 1000, 1, 0, DAY);
        is("who came pays 1 of 1000", y.money(0, 0), -1001);
    }

    private static void tiesGoAtOnce() {
        about("when one of them trades something, the other one goes at once, whether it stands or waits");
        NettingHall x = new NettingHall();
        x.order(0, 0, SELL, 50, 5, 0, DAY);
        x.order(0, 0, SELL, 50, 5, 0, DAY);
        x.order(1, 0, SELL, 50, 5, 0, DAY);
        x.tie(0, 1);
        x.order(2, 0, BUY, 50, 6, 0, DAY);
        is("ahead of the next trade of the same order", x.trade(1, 2), 21);
        is("it went", x.standing(1), 0);
        x.order(0, 1, BUY, 50, 5, 0, DAY);
        x.stop(0, 2, BUY, 60, 5, 55);
        x.tie(5, 4);
        x.order(1, 1, SELL, 50, 1, 0, NOW);
        is("the least that trades", x.standing(4), 41);
        is("one that waits, of another instrument", x.standing(5), 0);
        about("one that woke and trades takes the other one away, one that woke alone does not");
        NettingHall y = new NettingHall();
        y.stop(0, 0, BUY, 105, 5, 100);
        y.order(0, 1, BUY, 7, 5, 0, DAY);
        y.tie(0, 1);
        trade(y, 1, 2, 0, 100, 1);
        is("it woke", y.standing(0), 51);
        is("the other one stands", y.standing(1), 51);
        y.order(2, 0, SELL, 105, 1, 0, NOW);
        is("it trades", y.standing(0), 41);
        is("the other one goes", y.standing(1), 0);
        y.order(0, 1, BUY, 8, 5, 0, DAY);
        y.tie(0, 5);
        is("then it can be tied again", y.standing(5), 51);
    }

    private static void tiesGoOtherwise() {
        about("one that goes otherwise leaves the other one untied");
        NettingHall x = new NettingHall();
        for (int i = 0; i < 6; i++) {
            x.order(0, 0, SELL, 50 + i, 1, 0, DAY);
        }
        x.tie(0, 1);
        notNow("tied", () -> x.tie(1, 2));
        x.cancel(0);
        x.tie(1, 2);
        x.order(0, 0, BUY, 51, 1, 0, NOW);
        is("its own order took one away", x.standing(1), 0);
        is("the other one stands", x.standing(2), 11);
        x.tie(2, 3);
        x.halt(0);
        x.order(0, 0, BUY, 60, 1, 0, DAY);
        x.order(0, 0, BUY, 59, 9, 0, DAY);
        x.tie(8, 7);
        x.open(0);
        is("the opening took the later one of a pair away", x.standing(7) + x.standing(8), 0);
        is("the earlier one stands", x.standing(2), 11);
        NettingHall y = new NettingHall();
        y.halt(0);
        y.order(0, 0, SELL, 20, 1, 0, DAY);
        y.order(0, 1, SELL, 20, 1, 0, DAY);
        y.tie(0, 1);
        y.order(0, 0, BUY, 20, 1, 0, DAY);
        y.order(0, 1, BUY, 10, 1, 0, DAY);
        y.tie(3, 2);
        y.order(0, 2, BUY, 10, 1, 0, DAY);
        y.open(0);
        is("the later one of the pair", y.standing(2), 0);
        notNow("those of the earlier one stay tied", () -> y.tie(1, 4));
        y.tie(3, 4);
        is("those of the later one do not", y.standing(3), 11);
    }

    private static void auctionsTake() {
        about("in AUCTION DAY and REST orders stand without trading, of others none is taken");
        NettingHall x = new NettingHall();
        x.halt(0);
        x.order(0, 0, SELL, 50, 5, 0, DAY);
        x.order(0, 0, BUY, 60, 5, 0, DAY);
        is("own orders stay", x.standing(0), 51);
        x.order(1, 0, BUY, 60, 5, 2, REST);
        is("REST stands", x.standing(2), 51);
        is("with its shown size", x.shown(0, BUY, 60), 7);
        notNow("NOW", () -> x.order(1, 0, BUY, 60, 5, 0, NOW));
        notNow("ALL", () -> x.order(1, 0, BUY, 60, 5, 0, ALL));
        is("a stop waits", x.stop(1, 0, BUY, 60, 5, 1), 3);
        is("and is not shown", x.best(0, BUY), 60);
        is("a cancel", x.cancel(0), 5);
        is("nothing was traded", x.trades(), 0);
        is("another instrument trades", x.order(1, 1, BUY, 60, 5, 0, NOW), 4);
        notNow("a spread, first", () -> x.spread(1, 0, 1, 1, 0));
        notNow("a spread, second", () -> x.spread(1, 1, 0, 1, 0));
    }
}
