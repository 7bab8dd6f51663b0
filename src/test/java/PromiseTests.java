/** For each promise of the document: ordinary inputs, the edges that it names, and wrong inputs. */
public class PromiseTests extends Checks {
    public static void main(String[] args) {
        constants();
        newObject();
        deposits();
        funds();
        ordersTrade();
        ordersByKind();
        ordersAndBands();
        ordersAtLimits();
        stops();
        ties();
        cancels();
        suspicions();
        spreads();
        spreadsAtEdges();
        standingBestShown();
        bandsAndHalts();
        indications();
        openings();
        splits();
        dividends();
        instruments();
        tradesAndFees();
        brokenTrades();
        positionsAndMoney();
        scenariosAndMargins();
        membersAndTicks();
        failing();
        sales();
        settling();
        fundInOrder();
        fundByShares();
        readers();
        lostAndCopied();
        replay();
        nothingChangesByThrow();
        end("the promises");
    }

    private static void constants() {
        about("constants");
        is("NONE", NettingHall.NONE, -1);
        is("DAY", NettingHall.DAY, 0);
        is("NOW", NettingHall.NOW, 1);
        is("ALL", NettingHall.ALL, 2);
        is("REST", NettingHall.REST, 3);
        is("CONTINUOUS", NettingHall.CONTINUOUS, 0);
        is("AUCTION", NettingHall.AUCTION, 1);
    }

    private static void newObject() {
        about("1 new object");
        NettingHall x = new NettingHall();
        is("trades", x.trades(), 0);
        for (int i = 0; i < 3; i++) {
            is("instrument", x.instrument(i), 0);
            is("best", x.best(i, BUY), -1);
            is("best", x.best(i, SELL), -1);
            is("indicated", x.indicated(i), 0);
            for (int m = -1; m < 5; m++) {
                is("position", x.position(m, i), 0);
                is("money", x.money(m, i), 0);
            }
        }
        for (int m = 0; m < 5; m++) {
            is("member", x.member(m), 0);
            is("margin", x.margin(m), 0);
            is("worth", x.worth(m), 0);
        }
        is("read", x.read(0), -1);
        is("wrong", x.wrong(1), 0);
        noSuch("standing(0)", () -> x.standing(0));
        noSuch("trade(0, 0)", () -> x.trade(0, 0));
        is("replays", x.replays() ? 1 : 0, 1);
        NettingHall y = new NettingHall();
        x.deposit(0, 5);
        is("another object's deposit", y.money(0, 1), 0);
    }

    private static void deposits() {
        about("2 deposit");
        NettingHall x = new NettingHall();
        is("deposit(0, 1)", x.deposit(0, 1), 1);
        is("deposit(0, 1000000)", x.deposit(0, 1000000), 1000001);
        is("deposit(4, 7)", x.deposit(4, 7), 7);
        is("money(0, 1)", x.money(0, 1), 1000001);
        is("money(0, 0)", x.money(0, 0), 0);
        for (int member : new int[] {-1, 5, FAR[0], FAR[1]}) {
            noSuch("deposit", () -> x.deposit(member, 1));
            noSuch("deposit", () -> x.deposit(member, 0));
        }
        for (int amount : new int[] {0, -1, 1000001, FAR[0], FAR[1]}) {
            outOfRange("deposit", () -> x.deposit(0, amount));
        }
        NettingHall failed = withFailed();
        notNow("deposit of a failed one", () -> failed.deposit(1, 1));
        outOfRange("deposit of a failed one, out of range", () -> failed.deposit(1, 0));
    }

    private static void funds() {
        about("3 fund");
        NettingHall x = new NettingHall();
        is("fund(0, 1)", x.fund(0, 1), 1);
        is("fund(0, 1000000)", x.fund(0, 1000000), 1000001);
        is("fund(-1, 30)", x.fund(-1, 30), 30);
        is("fund(-1, 12)", x.fund(-1, 12), 42);
        is("money(-1, 2)", x.money(-1, 2), 42);
        is("money(0, 2)", x.money(0, 2), 1000001);
        for (int member : new int[] {-2, 5, FAR[0], FAR[1]}) {
            noSuch("fund", () -> x.fund(member, 0));
        }
        for (int amount : new int[] {0, -1, 1000001, FAR[0], FAR[1]}) {
            outOfRange("fund", () -> x.fund(-1, amount));
        }
        NettingHall failed = withFailed();
        notNow("fund of a failed one", () -> failed.fund(1, 1));
        is("fund of the house then", failed.fund(-1, 1), 1);
    }

    private static void ordersTrade() {
        about("4 order");
        NettingHall x = new NettingHall();
        is("the first number", x.order(0, 0, SELL, 101, 5, 0, DAY), 0);
        is("a better price", x.order(1, 0, SELL, 100, 5, 2, DAY), 1);
        is("the same price, later", x.order(2, 0, SELL, 100, 5, 0, DAY), 2);
        is("one that buys", x.order(3, 0, BUY, 101, 6, 0, DAY), 3);
        is("trades", x.trades(), 2);
        is("the hidden one shows first", x.trade(0, 1), 2);
        is("then the one behind it", x.trade(1, 1), 4);
        is("at the price of the standing one", x.trade(1, 0), 100);
        is("who", x.trade(1, 2), 32);
        is("the one that is left", x.standing(2), 11);
        is("the hidden one", x.standing(1), 31);
        is("the used up part stands behind", x.order(3, 0, BUY, 100, 2, 0, NOW), 4);
        is("so that one trades first", x.trade(2, 2), 32);
        is("then the hidden one", x.trade(3, 2), 31);
        is("best", x.best(0, SELL), 100);
        is("a price that is not reached stands", x.order(3, 0, BUY, 99, 2, 0, DAY), 5);
        is("standing", x.standing(5), 21);
        is("the other side, by greater prices", x.order(4, 0, BUY, 98, 2, 0, DAY), 6);
        is("seller takes the best first", x.order(0, 0, SELL, 98, 3, 0, DAY), 7);
        is("at 99", x.trade(4, 0), 99);
        is("then at 98", x.trade(5, 0), 98);
        is("own orders go instead", x.order(1, 0, BUY, 101, 9, 0, DAY), 8);
        is("its own was taken", x.standing(1), 0);
        is("the next was looked at", x.standing(0), 0);
        is("and the rest stands", x.standing(8), 41);
        is("trades in all", x.trades(), 7);
        is("another instrument", x.order(1, 1, SELL, 90, 9, 0, DAY), 9);
        is("is a book of its own", x.standing(9), 91);
    }

    private static void ordersByKind() {
        about("4 order by kinds");
        NettingHall x = new NettingHall();
        x.order(0, 0, SELL, 100, 5, 1, DAY);
        x.order(1, 0, SELL, 101, 5, 0, DAY);
        is("ALL that cannot", x.order(2, 0, BUY, 101, 11, 0, ALL), -1);
        is("ALL without its own", x.order(1, 0, BUY, 101, 6, 0, ALL), -1);
        is("own ones stay then", x.standing(1), 51);
        is("ALL with hidden parts", x.order(2, 0, BUY, 100, 4, 0, ALL), 2);
        is("trades one by one", x.trades(), 4);
        is("REST that would trade", x.order(2, 0, BUY, 100, 1, 0, REST), -1);
        is("REST against its own", x.order(0, 0, BUY, 100, 1, 0, REST), 3);
        is("takes that away", x.standing(0), 0);
        is("and stands", x.standing(3), 11);
        is("NOW", x.order(2, 0, BUY, 101, 9, 0, NOW), 4);
        is("the rest of it is gone", x.standing(4), 0);
        is("best", x.best(0, SELL), -1);
        is("ALL without anything", x.order(2, 0, BUY, 101, 1, 0, ALL), -1);
        is("a refused one has no number", x.order(2, 0, BUY, 1, 1, 0, DAY), 5);
        x.halt(0);
        notNow("NOW in AUCTION", () -> x.order(2, 0, SELL, 1, 1, 0, NOW));
        notNow("ALL in AUCTION", () -> x.order(2, 0, SELL, 1, 1, 0, ALL));
        is("REST in AUCTION", x.order(2, 0, SELL, 1, 1, 0, REST), 6);
        is("stands", x.standing(6), 11);
        is("trades in all", x.trades(), 5);
    }

    private static void ordersAndBands() {
        about("4 order and band");
        NettingHall x = new NettingHall();
        x.band(0, 3);
        trade(x, 0, 1, 0, 199, 1);
        is("while there is no reference there is no band", x.instrument(0), 1990);
        x.order(1, 0, SELL, 204, 1, 0, DAY);
        is("205 is away by more than 5", x.order(1, 0, SELL, 205, 3, 0, DAY), 3);
        is("one that buys", x.order(0, 0, BUY, 210, 9, 0, DAY), 4);
        is("trades within the band alone", x.trades(), 2);
        is("becomes AUCTION", x.instrument(0), 2041);
        is("the rest stands", x.standing(4), 81);
        is("crossing", x.best(0, BUY), 210);
        NettingHall y = new NettingHall();
        y.band(0, 3);
        trade(y, 0, 1, 0, 100, 1);
        y.order(0, 0, BUY, 96, 5, 0, DAY);
        y.order(2, 0, SELL, 90, 9, 0, NOW);
        is("too low", y.instrument(0), 1001);
        is("NOW is gone then", y.standing(3), 0);
        y.open(0);
        y.order(0, 0, BUY, 95, 5, 0, DAY);
        y.order(0, 0, SELL, 90, 1, 0, DAY);
        is("own orders go whatever the band", y.standing(2), 0);
        is("both", y.standing(4), 0);
        is("phase", y.instrument(0), 1000);
        NettingHall z = new NettingHall();
        trade(z, 0, 1, 0, 100, 1);
        z.order(1, 0, SELL, 101, 2, 0, DAY);
        z.order(1, 0, SELL, 300, 2, 0, DAY);
        is("band of 1", z.band(0, 1), 0);
        is("ALL does not ask for bands", z.order(0, 0, BUY, 300, 4, 0, ALL), 4);
        is("but stops there", z.instrument(0), 1011);
        is("and goes", z.standing(4), 0);
        is("the reference is of the first trade, not the last", z.trades(), 2);
    }

    private static void ordersAtLimits() {
        about("4 order at limits");
        NettingHall x = new NettingHall();
        for (int member : new int[] {-1, 5, FAR[0], FAR[1]}) {
            noSuch("member", () -> x.order(member, 0, 2, 0, 0, -1, 9));
            noSuch("instrument", () -> x.order(0, member == 5 ? 3 : member, 2, 0, 0, -1, 9));
            outOfRange("side", () -> x.order(0, 0, member == 5 ? 2 : member, 1, 1, 0, 0));
            outOfRange("kind", () -> x.order(0, 0, 0, 1, 1, 0, member == 5 ? 4 : member));
        }
        for (int none : new int[] {0, -1, 10000, FAR[0], FAR[1]}) {
            outOfRange("price", () -> x.order(0, 0, 0, none, 1, 0, 0));
            outOfRange("quantity", () -> x.order(0, 0, 0, 1, none == 10000 ? 1001 : none, 0, 0));
        }
        outOfRange("shown", () -> x.order(0, 0, 0, 1, 5, 6, 0));
        outOfRange("shown", () -> x.order(0, 0, 0, 1, 5, -1, 0));
        is("the greatest", x.order(4, 2, 1, 9999, 1000, 1000, 3), 0);
        is("the least", x.order(4, 2, 0, 1, 1, 1, 3), 1);
        for (int i = 2; i < 120; i++) {
            is("number", x.order(0, 0, BUY, i, 1, 0, DAY), i);
        }
        notNow("the 121st", () -> x.order(0, 0, BUY, 1, 1, 0, DAY));
        notNow("the 121st that would be refused", () -> x.order(1, 0, SELL, 1, 1, 0, REST));
        notNow("stop", () -> x.stop(0, 0, BUY, 1, 1, 1));
        outOfRange("the 121st with a wrong price", () -> x.order(0, 0, BUY, 0, 1, 0, DAY));
        is("the others stand", x.standing(119), 11);

        NettingHall y = new NettingHall();
        y.order(0, 0, SELL, 100, 250, 1, DAY);
        is("many trades by one order", y.order(1, 0, BUY, 100, 199, 0, DAY), 1);
        is("trades", y.trades(), 199);
        y.order(0, 1, SELL, 50, 5, 0, DAY);
        y.order(2, 2, BUY, 50, 5, 0, DAY);
        is("a spread has no room", y.spread(3, 1, 2, 1, 0), 0);
        is("and takes nothing away", y.spread(2, 1, 2, 1, 0), 0);
        is("standing", y.standing(3), 51);
        is("one more", y.order(1, 0, BUY, 100, 5, 0, DAY), 4);
        is("is the last", y.trades(), 200);
        is("what is left stands", y.standing(4), 41);
        is("crossing", y.best(0, SELL), 100);
        is("NOW goes", y.order(1, 0, BUY, 100, 5, 0, NOW), 5);
        is("its rest", y.standing(5), 0);
        is("ALL comes, and goes", y.order(1, 0, BUY, 100, 5, 0, ALL), 6);
        is("REST is refused as ever", y.order(1, 0, BUY, 100, 5, 0, REST), -1);
        is("own ones stay", y.order(0, 0, BUY, 100, 5, 0, DAY), 7);
        is("standing", y.standing(0), 501);
        y.halt(0);
        is("indicated counts them", y.indicated(0), 100000009);
        is("nothing is opened", y.open(0), 0);
        is("it trades again", y.instrument(0), 1000);
        is("trades", y.trades(), 200);
        NettingHall z = new NettingHall();
        z.order(0, 0, SELL, 100, 250, 1, DAY);
        z.order(1, 0, BUY, 100, 198, 0, DAY);
        z.order(0, 1, SELL, 50, 5, 0, DAY);
        z.order(2, 2, BUY, 50, 5, 1, DAY);
        is("at 198 a spread has room for two", z.spread(3, 1, 2, 5, 0), 1);
        is("and no more", z.trades(), 200);
        NettingHall failed = withFailed();
        notNow("order of a failed one", () -> failed.order(1, 0, BUY, 60, 1, 0, DAY));
        is("order of another one", failed.order(2, 0, BUY, 60, 1, 0, DAY), 4);
    }

    private static void stops() {
        about("5 stop");
        NettingHall x = new NettingHall();
        is("buys at 104 or more", x.stop(0, 0, BUY, 110, 5, 104), 0);
        is("sells at 96 or less", x.stop(1, 0, SELL, 90, 5, 96), 1);
        is("waits", x.standing(0), 52);
        trade(x, 2, 3, 0, 103, 1);
        is("not yet", x.standing(0), 52);
        trade(x, 2, 3, 0, 97, 1);
        is("not yet", x.standing(1), 52);
        trade(x, 2, 3, 0, 104, 1);
        is("woke", x.standing(0), 51);
        is("all of it is shown", x.shown(0, BUY, 110), 5);
        x.order(2, 0, BUY, 120, 4, 0, DAY);
        x.order(3, 0, SELL, 105, 4, 0, DAY);
        is("the other one still waits", x.standing(1), 52);
        x.order(3, 1, SELL, 90, 1, 0, DAY);
        x.order(2, 1, BUY, 90, 1, 0, DAY);
        is("another instrument does not wake it", x.standing(1), 52);
        x.cancel(0);
        trade(x, 2, 3, 0, 96, 1);
        is("96 does", x.standing(1), 51);
        is("it is of the kind DAY", x.best(0, SELL), 90);

        NettingHall y = new NettingHall();
        y.stop(0, 0, BUY, 105, 3, 100);
        y.stop(1, 0, BUY, 106, 3, 100);
        y.stop(4, 0, BUY, 107, 1, 102);
        y.order(2, 0, SELL, 100, 1, 0, DAY);
        y.order(2, 0, SELL, 101, 2, 0, DAY);
        y.order(2, 0, SELL, 102, 2, 0, DAY);
        is("one that trades", y.order(3, 0, BUY, 100, 1, 0, DAY), 6);
        is("the lowest number comes first", y.trade(1, 2), 2);
        is("with what it can", y.trade(2, 2), 2);
        is("then, again the lowest of those that wake", y.trade(3, 2), 12);
        is("and those that are woken by that", y.standing(2), 11);
        is("trades", y.trades(), 4);
        is("a stop's price is passed already", y.stop(0, 0, SELL, 50, 1, 200), 7);
        is("it waits for a trade", y.standing(7), 12);
        y.cancel(1);
        y.halt(0);
        y.order(3, 0, SELL, 107, 1, 0, DAY);
        is("opened", y.open(0), 1);
        is("and woken behind the opening", y.standing(7), 11);

        NettingHall z = new NettingHall();
        z.band(0, 10);
        trade(z, 0, 1, 0, 100, 1);
        z.stop(2, 0, BUY, 130, 5, 101);
        z.order(1, 0, SELL, 101, 1, 0, DAY);
        z.order(1, 0, SELL, 120, 1, 0, DAY);
        z.order(0, 0, BUY, 130, 2, 0, DAY);
        is("AUCTION", z.instrument(0), 1011);
        is("no stop wakes then", z.standing(2), 52);
        for (int none : new int[] {0, -1, 10000, FAR[0], FAR[1]}) {
            outOfRange("wake", () -> x.stop(0, 0, 0, 1, 1, none));
            outOfRange("price", () -> x.stop(0, 0, 0, none, 1, 1));
            outOfRange("quantity", () -> x.stop(0, 0, 0, 1, none == 10000 ? 1001 : none, 1));
            outOfRange("side", () -> x.stop(0, 0, none == 0 ? 2 : none, 1, 1, 1));
            noSuch("member", () -> x.stop(none == 0 ? 5 : none, 0, 0, 1, 1, 0));
            noSuch("instrument", () -> x.stop(0, none == 0 ? 3 : none, 0, 1, 1, 0));
        }
        notNow("stop of a failed one", () -> withFailed().stop(1, 0, BUY, 1, 1, 1));
    }

    private static void ties() {
        about("6 tie");
        NettingHall x = new NettingHall();
        x.order(0, 0, SELL, 110, 5, 0, DAY);
        x.stop(0, 0, SELL, 80, 5, 90);
        x.order(0, 0, SELL, 120, 5, 0, DAY);
        x.order(1, 0, SELL, 130, 5, 0, DAY);
        x.tie(0, 1);
        notNow("tied", () -> x.tie(0, 2));
        notNow("tied", () -> x.tie(2, 1));
        outOfRange("the same", () -> x.tie(0, 0));
        outOfRange("of two members", () -> x.tie(0, 3));
        for (int none : new int[] {-1, 4, FAR[0], FAR[1]}) {
            noSuch("order", () -> x.tie(none, 0));
            noSuch("other", () -> x.tie(0, none));
            noSuch("both", () -> x.tie(none, none));
        }
        x.order(1, 0, BUY, 110, 1, 0, DAY);
        is("it traded", x.standing(0), 41);
        is("the stop went", x.standing(1), 0);
        notNow("gone", () -> x.tie(0, 1));
        x.tie(2, 0);
        x.cancel(0);
        is("it stays", x.standing(2), 51);
        is("another one", x.order(0, 0, SELL, 140, 1, 0, DAY), 5);
        x.tie(5, 2);
        is("one takes its own away", x.order(0, 0, BUY, 120, 1, 0, DAY), 6);
        is("gone otherwise", x.standing(2), 0);
        is("the other is untied", x.standing(5), 11);
        x.tie(5, 6);
        is("and tied again", x.standing(6), 11);

        NettingHall y = new NettingHall();
        y.stop(0, 0, BUY, 105, 5, 100);
        y.order(0, 0, BUY, 90, 5, 0, DAY);
        y.tie(0, 1);
        y.order(2, 0, SELL, 101, 2, 0, DAY);
        trade(y, 1, 2, 0, 100, 1);
        is("a stop that woke and traded", y.standing(0), 31);
        is("takes its other away", y.standing(1), 0);
        y.halt(1);
        y.order(0, 1, BUY, 50, 2, 0, DAY);
        y.order(0, 1, BUY, 49, 2, 0, DAY);
        y.tie(5, 6);
        y.order(1, 1, SELL, 49, 4, 0, DAY);
        is("indicated", y.indicated(1), 49000004);
        is("in an opening too", y.open(1), 2);
        is("the tied one went", y.standing(6), 0);
        is("at that price", y.trade(y.trades() - 1, 0), 49);
    }

    private static void cancels() {
        about("7 cancel");
        NettingHall x = new NettingHall();
        x.order(0, 0, SELL, 100, 9, 2, DAY);
        x.stop(0, 0, SELL, 100, 7, 2);
        x.tie(0, 1);
        x.order(2, 0, SELL, 100, 3, 0, DAY);
        is("left, hidden parts as well", x.cancel(0), 9);
        is("the tied one stays", x.standing(1), 72);
        is("gone", x.standing(0), 0);
        notNow("gone", () -> x.cancel(0));
        is("a stop", x.cancel(1), 7);
        x.order(1, 0, BUY, 100, 1, 0, DAY);
        is("what is left", x.cancel(2), 2);
        notNow("traded", () -> x.cancel(3));
        for (int none : new int[] {-1, 4, 120, FAR[0], FAR[1]}) {
            noSuch("order", () -> x.cancel(none));
        }
        is("nobody was suspicious", x.member(0) + x.member(1) + x.member(2), 0);
    }

    private static void suspicions() {
        about("7 cancel, watched");
        NettingHall x = new NettingHall();
        x.order(0, 0, BUY, 90, 9, 0, DAY);
        x.order(0, 0, BUY, 91, 9, 0, DAY);
        x.order(0, 0, SELL, 110, 9, 0, DAY);
        x.order(0, 1, BUY, 90, 9, 0, DAY);
        x.order(0, 0, SELL, 100, 1, 0, DAY);
        x.tick(2);
        x.order(1, 0, BUY, 100, 1, 0, DAY);
        x.cancel(0);
        is("sold 2 ticks behind that", x.member(0), 10);
        x.cancel(2);
        is("the same side does not count", x.member(0), 10);
        x.cancel(3);
        is("nor another instrument", x.member(0), 10);
        x.tick(1);
        x.cancel(1);
        is("3 ticks are too many", x.member(0), 10);
        x.order(0, 0, BUY, 80, 1, 0, DAY);
        x.cancel(6);
        is("a trade ahead of its tick does not count", x.member(0), 10);
        x.stop(1, 0, SELL, 300, 1, 50);
        x.tick(5);
        trade(x, 1, 2, 0, 50, 1);
        is("woke", x.standing(7), 11);
        x.cancel(7);
        is("a stop counts from when it woke", x.member(1), 10);
        x.stop(1, 0, SELL, 300, 1, 1);
        x.cancel(10);
        is("or from when it was told", x.member(1), 20);
        x.breakTrade(1);
        x.order(1, 0, SELL, 300, 1, 0, DAY);
        x.cancel(11);
        is("a broken trade was one too", x.member(1), 30);
    }

    private static void spreads() {
        about("8 spread");
        NettingHall x = new NettingHall();
        x.order(0, 1, SELL, 50, 9, 4, DAY);
        x.order(1, 2, BUY, 44, 5, 0, DAY);
        x.order(1, 2, BUY, 43, 5, 0, DAY);
        is("too little", x.spread(4, 1, 2, 12, 5), 0);
        is("as much as both show", x.spread(4, 1, 2, 3, 6), 3);
        is("two trades", x.trades(), 2);
        is("the first one ahead", x.trade(0, 2), 40);
        is("its price", x.trade(0, 0), 50);
        is("then the second", x.trade(1, 2), 14);
        is("its price", x.trade(1, 0), 44);
        is("positions", x.position(4, 1) * 100 + x.position(4, 2), 297);
        is("what is shown is used first", x.shown(1, SELL, 50), 1);
        is("until the price is passed", x.spread(4, 1, 2, 12, 6), 2);
        is("by as much as both showed", x.trades(), 6);
        is("the rest goes", x.standing(0), 41);
        is("at a greater price", x.spread(4, 1, 2, 12, 7), 4);
        is("both are at their last prices", x.instrument(1) + x.instrument(2), 930);
        is("nothing more", x.spread(4, 1, 2, 12, 9998), 0);
        is("an order alone stays", x.standing(2), 11);

        NettingHall y = new NettingHall();
        y.band(0, 1);
        y.band(1, 1);
        trade(y, 0, 1, 0, 100, 1);
        trade(y, 0, 1, 1, 100, 1);
        y.order(0, 0, SELL, 150, 5, 0, DAY);
        y.order(2, 1, BUY, 40, 5, 0, DAY);
        y.stop(3, 1, SELL, 30, 2, 40);
        is("bands do not matter", y.spread(3, 0, 1, 2, 110), 2);
        is("a stop of the second woke", y.standing(6), 21);
        is("and met the band", y.instrument(1), 401);
        notNow("the second is in AUCTION", () -> y.spread(3, 0, 1, 2, 110));
        notNow("the first is", () -> y.spread(3, 1, 0, 2, 110));
        for (int none : new int[] {-1, 5, FAR[0], FAR[1]}) {
            noSuch("member", () -> y.spread(none, 0, 0, 0, 0));
            noSuch("first", () -> y.spread(0, none == 5 ? 3 : none, 0, 0, 0));
            noSuch("second", () -> y.spread(0, 0, none == 5 ? 3 : none, 0, 0));
            outOfRange("quantity", () -> y.spread(0, 0, 2, none == 5 ? 1001 : none, 0));
            outOfRange("price", () -> y.spread(0, 0, 2, 1, none == 5 ? 9999 : none == -1 ? -9999 : none));
        }
        outOfRange("the same", () -> y.spread(0, 2, 2, 1, 0));
        is("the greatest", y.spread(0, 0, 2, 1000, 9998), 0);
        is("the least", y.spread(0, 0, 2, 1, -9998), 0);
        notNow("spread of a failed one", () -> withFailed().spread(1, 1, 2, 1, 0));
    }

    private static void spreadsAtEdges() {
        about("8 spread at edges");
        NettingHall x = new NettingHall();
        x.order(0, 0, SELL, 50, 5, 0, DAY);
        x.order(0, 1, BUY, 40, 5, 0, DAY);
        x.tie(0, 1);
        is("orders that are tied with one another", x.spread(1, 0, 1, 3, 10), 3);
        is("trade both", x.trades(), 2);
        is("and go", x.standing(0) + x.standing(1), 0);
        x.order(0, 0, SELL, 50, 5, 0, DAY);
        x.order(0, 2, BUY, 30, 5, 0, DAY);
        x.tie(2, 3);
        x.order(2, 1, BUY, 40, 5, 0, DAY);
        is("one that is tied with another", x.spread(1, 0, 1, 3, 10), 3);
        is("stands", x.standing(2), 21);
        is("the other went", x.standing(3), 0);
        NettingHall y = new NettingHall();
        y.order(1, 0, SELL, 50, 5, 0, DAY);
        y.order(0, 0, SELL, 52, 5, 0, DAY);
        y.order(1, 1, BUY, 40, 5, 0, DAY);
        y.order(0, 1, BUY, 39, 5, 0, DAY);
        is("own ones with their price, too far", y.spread(1, 0, 1, 3, 9), 0);
        is("stay", y.standing(0), 51);
        is("own ones go", y.spread(1, 0, 1, 3, 10), 0);
        is("the first", y.standing(0), 0);
        is("and the second", y.standing(2), 0);
        is("others are too far then", y.standing(1), 51);
        is("they trade at 13", y.spread(1, 0, 1, 3, 13), 3);
        is("a price below 0", y.spread(1, 1, 0, 3, -9998), 0);
    }

    private static void standingBestShown() {
        about("9 standing, 10 best, 11 shown");
        NettingHall x = new NettingHall();
        x.order(0, 0, BUY, 10, 9, 4, DAY);
        x.order(1, 0, BUY, 10, 5, 0, DAY);
        x.order(2, 0, BUY, 11, 1, 0, DAY);
        x.order(2, 0, SELL, 20, 2, 0, DAY);
        x.order(2, 0, SELL, 19, 2, 0, DAY);
        x.stop(2, 0, BUY, 15, 3, 50);
        is("stands", x.standing(0), 91);
        is("waits", x.standing(5), 32);
        is("best that buys", x.best(0, BUY), 11);
        is("best that sells", x.best(0, SELL), 19);
        is("none", x.best(1, SELL), -1);
        is("shown, together", x.shown(0, BUY, 10), 9);
        is("a stop is not shown", x.shown(0, BUY, 15), 0);
        is("the other side", x.shown(0, SELL, 10), 0);
        is("another instrument", x.shown(1, BUY, 10), 0);
        x.order(3, 0, SELL, 10, 2, 0, NOW);
        is("a part of a part", x.shown(0, BUY, 10), 8);
        is("gone", x.standing(2), 0);
        is("NOW is gone", x.standing(6), 0);
        x.order(3, 0, SELL, 10, 3, 0, NOW);
        is("shown anew", x.shown(0, BUY, 10), 9);
        x.order(3, 0, SELL, 10, 9, 0, NOW);
        is("what is left is less", x.shown(0, BUY, 10), 1);
        for (int none : new int[] {-1, 3, FAR[0], FAR[1]}) {
            noSuch("best", () -> x.best(none, 2));
            noSuch("shown", () -> x.shown(none, 2, 0));
            outOfRange("best", () -> x.best(0, none == 3 ? 2 : none));
            outOfRange("shown by side", () -> x.shown(0, none == 3 ? 2 : none, 1));
            outOfRange("shown by price", () -> x.shown(0, 0, none == 3 ? 10000 : none));
            noSuch("standing", () -> x.standing(none == 3 ? 9 : none));
        }
        outOfRange("shown at 0", () -> x.shown(0, 0, 0));
        is("shown at 9999", x.shown(0, 0, 9999), 0);
    }

    private static void bandsAndHalts() {
        about("12 band, 13 halt");
        NettingHall x = new NettingHall();
        is("band(0, 50)", x.band(0, 50), 0);
        is("band(0, 0)", x.band(0, 0), 50);
        is("band(0, 1)", x.band(0, 1), 0);
        is("another instrument", x.band(2, 9), 0);
        for (int none : new int[] {-1, 51, FAR[0], FAR[1]}) {
            outOfRange("band", () -> x.band(0, none));
            noSuch("band", () -> x.band(none == 51 ? 3 : none, none));
            noSuch("halt", () -> x.halt(none == 51 ? 3 : none));
        }
        x.halt(0);
        is("AUCTION", x.instrument(0), 1);
        is("the others trade", x.instrument(1) + x.instrument(2), 0);
        notNow("it is", () -> x.halt(0));
        x.order(0, 0, SELL, 5, 1, 0, DAY);
        x.order(1, 0, BUY, 5, 1, 0, DAY);
        is("nothing trades", x.trades(), 0);
    }

    private static void indications() {
        about("14 indicated");
        NettingHall x = new NettingHall();
        is("nothing", x.indicated(0), 0);
        x.halt(0);
        x.order(0, 0, BUY, 100, 10, 1, DAY);
        is("one side", x.indicated(0), 0);
        x.order(0, 0, SELL, 95, 10, 0, DAY);
        is("of equals the lowest, without a reference, pairs of one member counted", x.indicated(0), 95000010);
        x.order(1, 0, SELL, 100, 5, 0, DAY);
        is("the least difference", x.indicated(0), 95000010);
        x.order(2, 0, BUY, 96, 3, 0, DAY);
        is("95: 13 against 10, 96 as well, 100: 10 against 15", x.indicated(0), 95000010);
        x.order(3, 0, BUY, 100, 2, 0, DAY);
        is("100: 12 against 15 is more", x.indicated(0), 100000012);
        x.stop(3, 0, BUY, 100, 2, 1);
        is("stops do not count", x.indicated(0), 100000012);
        for (int none : new int[] {-1, 3, FAR[0], FAR[1]}) {
            noSuch("indicated", () -> x.indicated(none));
        }
        NettingHall y = new NettingHall();
        trade(y, 0, 1, 0, 99, 1);
        y.halt(0);
        y.order(0, 0, BUY, 102, 5, 0, DAY);
        y.order(1, 0, SELL, 90, 5, 0, DAY);
        y.order(2, 0, BUY, 97, 1, 0, DAY);
        y.order(2, 0, SELL, 101, 1, 0, DAY);
        is("each of the four differs by 1; 97 and 101 are as near to 99: the lowest", y.indicated(0), 97000005);
        y.cancel(4);
        y.cancel(5);
        y.order(3, 0, BUY, 1, 1, 0, DAY);
        is("then 102 is nearer than 90", y.indicated(0), 102000005);
        y.order(3, 0, SELL, 96, 1, 0, DAY);
        y.order(4, 0, BUY, 96, 1, 0, DAY);
        is("the difference goes ahead of the reference", y.indicated(0), 96000006);
        y.cancel(7);
        y.cancel(8);
        y.cancel(6);
        y.cancel(2);
        y.order(4, 0, BUY, 108, 5, 0, DAY);
        is("90 and 108 are as near: the lowest", y.indicated(0), 90000005);
        y.open(0);
        is("while it trades, too", y.indicated(0), 0);
    }

    private static void openings() {
        about("15 open");
        NettingHall x = new NettingHall();
        notNow("not in AUCTION", () -> x.open(0));
        x.halt(0);
        is("nothing", x.open(0), 0);
        is("it trades", x.instrument(0), 0);
        x.halt(0);
        x.order(0, 0, BUY, 105, 10, 3, DAY);
        x.order(1, 0, BUY, 106, 4, 0, DAY);
        x.order(2, 0, SELL, 100, 7, 2, DAY);
        x.order(3, 0, SELL, 101, 5, 0, DAY);
        x.order(3, 0, BUY, 105, 3, 0, DAY);
        x.order(4, 0, SELL, 105, 1, 0, DAY);
        is("indicated: at 105 17 against 13", x.indicated(0), 105000013);
        is("opened", x.open(0), 13);
        is("trades", x.trades(), 4);
        is("first against first", x.trade(0, 2), 12);
        is("as much as both have", x.trade(0, 1), 4);
        is("then the next one, hidden parts as well", x.trade(1, 2), 2);
        is("3", x.trade(1, 1), 3);
        is("at one price", x.trade(2, 0), 105);
        is("then the rest", x.trade(2, 1), 5);
        is("then who is later", x.trade(3, 2), 4);
        is("stands where it stood", x.standing(0), 11);
        is("and shows anew", x.shown(0, BUY, 105), 4);
        is("the last price", x.instrument(0), 1050);
        x.order(4, 0, SELL, 105, 1, 0, DAY);
        is("it kept its place", x.standing(0), 0);

        NettingHall y = new NettingHall();
        y.halt(0);
        y.order(0, 0, SELL, 100, 5, 0, DAY);
        y.order(0, 0, BUY, 100, 5, 0, DAY);
        y.order(1, 0, BUY, 100, 2, 0, DAY);
        is("a pair of one member: the later one goes", y.open(0), 2);
        is("it went", y.standing(1), 0);
        is("the earlier one stands", y.standing(0), 31);
        y.band(0, 2);
        y.order(2, 0, SELL, 103, 5, 0, DAY);
        y.order(3, 0, BUY, 104, 4, 0, DAY);
        is("one of two trades at 100", y.standing(0), 0);
        is("103 is more than 2 percent from the opening's price", y.instrument(0), 1001);
        is("opened again", y.open(0), 1);
        is("at 103", y.instrument(0), 1030);
        y.order(2, 0, BUY, 103, 5, 0, DAY);
        y.order(2, 0, SELL, 106, 5, 0, DAY);
        y.order(3, 0, BUY, 105, 1, 0, DAY);
        y.order(2, 0, SELL, 105, 1, 0, DAY);
        is("105 is within 2 percent of 103", y.instrument(0), 1050);

        NettingHall z = new NettingHall();
        z.halt(0);
        z.order(0, 0, SELL, 100, 5, 0, DAY);
        z.order(0, 0, BUY, 100, 5, 0, DAY);
        is("nothing but a pair of one member", z.open(0), 0);
        is("no last price by that", z.instrument(0), 0);
        is("one is gone", z.standing(1), 0);
        for (int none : new int[] {-1, 3, FAR[0], FAR[1]}) {
            noSuch("open", () -> z.open(none));
        }
        NettingHall w = new NettingHall();
        w.halt(0);
        w.order(0, 0, SELL, 100, 1000, 0, DAY);
        w.order(1, 0, BUY, 100, 1000, 0, DAY);
        w.open(0);
        is("the seller pays", w.money(0, 0), 100000 - 100);
        is("the buyer is paid", w.money(1, 0), -100000 + 20);
    }

    private static void splits() {
        about("16 split");
        NettingHall x = new NettingHall();
        trade(x, 0, 1, 0, 101, 7);
        x.order(0, 0, BUY, 9, 10, 4, DAY);
        x.order(1, 0, BUY, 8, 10, 0, DAY);
        x.order(2, 0, BUY, 1, 10, 0, DAY);
        x.stop(3, 0, BUY, 51, 3, 61);
        x.order(4, 1, BUY, 9, 10, 0, DAY);
        x.order(1, 0, SELL, 9, 1, 0, DAY);
        is("a part is used", x.shown(0, BUY, 9), 3);
        is("splits", x.split(0, 2), 1);
        is("the last price", x.instrument(0), 40);
        is("position", x.position(0, 0), 16);
        is("the other way", x.position(1, 0), -16);
        is("left", x.standing(2), 181);
        is("of two prices one was made", x.shown(0, BUY, 4), 6 + 20);
        is("at least 1", x.shown(0, BUY, 1), 20);
        is("a stop", x.standing(5), 62);
        is("another instrument", x.shown(1, BUY, 9), 10);
        x.order(3, 0, SELL, 4, 30, 0, NOW);
        is("who came first is ahead", x.trade(2, 2), 3);
        is("as much as is shown", x.trade(2, 1), 6);
        is("then who came next", x.trade(3, 2), 13);
        is("then the hidden part, its shown size as well", x.trade(4, 1), 4);
        is("splits", x.split(0, 5), 2);
        is("the stop's price", x.standing(5), 302);
        trade(x, 0, 1, 0, 6, 1);
        is("it wakes at 6 now", x.standing(5), 301);
        is("at 5", x.best(0, BUY), 5);
        is("splits", x.split(0, 3), 3);
        notNow("the fourth", () -> x.split(0, 2));
        outOfRange("the fourth, out of range", () -> x.split(0, 6));
        is("another one", x.split(1, 5), 1);
        is("it has no last price", x.instrument(1), 0);
        for (int none : new int[] {-1, 6, FAR[0], FAR[1]}) {
            outOfRange("split", () -> x.split(2, none));
            noSuch("split", () -> x.split(none == 6 ? 3 : none, none));
        }
        outOfRange("split by 1", () -> x.split(2, 1));

        NettingHall y = new NettingHall();
        y.band(0, 10);
        trade(y, 0, 1, 0, 100, 1);
        y.split(0, 5);
        y.order(1, 0, SELL, 22, 1, 0, DAY);
        y.order(1, 0, SELL, 23, 1, 0, DAY);
        y.order(2, 0, BUY, 23, 2, 0, DAY);
        is("the reference is 20: 22 is within it, 23 is not", y.instrument(0), 221);
        NettingHall z = new NettingHall();
        z.order(0, 0, BUY, 10, 1, 0, DAY);
        z.order(1, 0, SELL, 11, 1, 0, DAY);
        z.split(0, 2);
        is("orders that could trade stand", z.best(0, BUY), 5);
        is("both", z.best(0, SELL), 5);
        is("trades", z.trades(), 0);
    }

    private static void dividends() {
        about("17 dividend");
        NettingHall x = new NettingHall();
        is("nobody has some", x.dividend(0, 1000), 0);
        trade(x, 0, 1, 0, 10, 7);
        trade(x, 2, 1, 0, 10, 2);
        is("paid", x.dividend(0, 3), 27);
        is("to one", x.money(0, 0), -70 + 21);
        is("by one", x.money(1, 0), 90 - 27);
        is("another instrument", x.dividend(1, 3), 0);
        for (int none : new int[] {0, -1, 1001, FAR[0], FAR[1]}) {
            outOfRange("dividend", () -> x.dividend(0, none));
            noSuch("dividend", () -> x.dividend(none == 0 ? 3 : none, none));
        }
        NettingHall failed = withFailed();
        long cash = failed.money(-1, 0);
        is("the house has 20, member 3 has 5", failed.dividend(0, 2), 50);
        is("the house is paid too", failed.money(-1, 0), cash + 40);
    }

    private static void instruments() {
        about("18 instrument");
        NettingHall x = new NettingHall();
        trade(x, 0, 1, 2, 9999, 1);
        is("last price", x.instrument(2), 99990);
        x.halt(2);
        is("and phase", x.instrument(2), 99991);
        for (int none : new int[] {-1, 3, FAR[0], FAR[1]}) {
            noSuch("instrument", () -> x.instrument(none));
        }
    }

    private static void tradesAndFees() {
        about("19 trades, 20 trade, fees");
        NettingHall x = new NettingHall();
        trade(x, 3, 4, 1, 77, 6);
        is("trades", x.trades(), 1);
        is("price", x.trade(0, 0), 77);
        is("quantity", x.trade(0, 1), 6);
        is("who", x.trade(0, 2), 34);
        is("not broken", x.trade(0, 3), 0);
        for (int none : new int[] {-1, 4, FAR[0], FAR[1]}) {
            outOfRange("what", () -> x.trade(0, none));
            noSuch("trade", () -> x.trade(none == 4 ? 1 : none, none));
        }
        x.split(1, 3);
        is("a trade stays as it was made", x.trade(0, 1), 6);
        NettingHall y = new NettingHall();
        y.order(0, 0, SELL, 100, 999, 0, DAY);
        y.order(1, 0, BUY, 100, 999, 0, DAY);
        is("10 of 10000, rounded down", y.money(1, 0), -99900 - 99);
        is("2 of 10000 are paid", y.money(0, 0), 99900 + 19);
        is("by the house", y.money(-1, 0), 99 - 19);
        y.order(0, 1, SELL, 100, 1, 0, DAY);
        y.order(1, 1, BUY, 100, 1, 0, DAY);
        is("999 ahead: still 10", y.money(1, 0), -99999 - 100);
        y.order(2, 2, SELL, 1000, 100, 0, DAY);
        y.order(1, 2, BUY, 1000, 100, 0, DAY);
        is("1000 ahead: 8", y.money(1, 0), -100099 - 100000 - 80);
        y.order(2, 2, BUY, 1000, 100, 0, DAY);
        y.order(1, 2, SELL, 1000, 100, 0, DAY);
        is("who sells pays as well", y.money(1, 0), -100179 - 80);
        is("who stood is paid twice", y.money(2, 0), 40);
        NettingHall z = new NettingHall();
        for (int i = 0; i < 5; i++) {
            trade(z, 1, 0, 0, 100, 1000);
        }
        long cash = z.money(1, 0);
        is("5000 by now", cash, -500000 - 100 - 4 * 80);
        trade(z, 1, 0, 0, 100, 1000);
        is("5 of 10000", z.money(1, 0), cash - 100000 - 50);
        trade(z, 0, 2, 0, 100, 1000);
        is("what stood counts as well", z.money(0, 0), 600000 + 6 * 20 - 100000 - 50);
        NettingHall s = new NettingHall();
        s.order(0, 0, SELL, 100, 1000, 0, DAY);
        s.order(1, 1, BUY, 100, 1000, 0, DAY);
        s.spread(2, 0, 1, 1000, 0);
        is("a spread pays for both, the second at a rate by the first", s.money(2, 0), -100 - 80);
        is("the one is paid", s.money(0, 0), 100000 + 20);
        is("and the other", s.money(1, 0), -100000 + 20);
    }

    private static void brokenTrades() {
        about("21 breakTrade");
        NettingHall x = new NettingHall();
        x.deposit(0, 1000);
        x.deposit(1, 1000);
        trade(x, 0, 1, 0, 100, 999);
        trade(x, 0, 1, 0, 110, 1);
        x.split(0, 2);
        x.split(0, 3);
        x.breakTrade(0);
        is("broken", x.trade(0, 3), 1);
        is("not the other", x.trade(1, 3), 0);
        is("positions by the splits", x.position(0, 0), 6);
        is("of both", x.position(1, 0), -6);
        is("cash", x.money(0, 0), -110);
        is("of both", x.money(1, 0), 110);
        is("of the house", x.money(-1, 0), 0);
        is("prices do not go back", x.instrument(0), 180);
        notNow("it was", () -> x.breakTrade(0));
        x.tick(20);
        x.breakTrade(1);
        is("within 20 ticks", x.position(0, 0), 0);
        trade(x, 0, 1, 1, 5000, 1);
        is("what was traded does not go back", x.money(0, 0), -5000 - 4);
        x.tick(21);
        notNow("21 ticks", () -> x.breakTrade(2));
        for (int none : new int[] {-1, 3, 200, FAR[0], FAR[1]}) {
            noSuch("trade", () -> x.breakTrade(none));
        }
        NettingHall failed = withFailed();
        notNow("one of both has failed", () -> failed.breakTrade(0));
        failed.breakTrade(1);
        is("others", failed.trade(1, 3), 1);
        NettingHall sold = new NettingHall();
        trade(sold, 0, 1, 0, 100, 20);
        trade(sold, 3, 2, 0, 160, 5);
        sold.deposit(2, 100);
        sold.tick(4);
        is("the seller has failed", sold.member(1), 2);
        notNow("then neither", () -> sold.breakTrade(0));
    }

    private static void positionsAndMoney() {
        about("22 position, 23 money");
        NettingHall x = withFailed();
        is("the house", x.position(-1, 0), 20);
        is("who failed", x.position(1, 0), 0);
        is("below 0", x.position(0, 0), -20);
        is("another instrument", x.position(0, 1), 0);
        for (int none : new int[] {-2, 5, FAR[0], FAR[1]}) {
            noSuch("position", () -> x.position(none, 0));
            noSuch("position", () -> x.position(0, none == 5 ? 3 : none == -2 ? -1 : none));
            noSuch("money", () -> x.money(none, 3));
            outOfRange("money", () -> x.money(0, none == 5 ? 3 : none));
        }
        outOfRange("money(-1, -1)", () -> x.money(-1, -1));
        x.fund(-1, 8);
        x.fund(2, 9);
        is("capital", x.money(-1, 2), 8);
        is("share", x.money(2, 2), 9);
        is("deposit", x.money(2, 1), 1000);
        is("cash of who failed: bought at 100, with a fee, gone at 60", x.money(1, 0), -2000 - 2 + 1200);
        is("cash of the house", x.money(-1, 0), 2 - 1200);
    }

    private static void scenariosAndMargins() {
        about("24 scenario, 25 margin, 26 worth");
        NettingHall x = new NettingHall();
        trade(x, 0, 1, 0, 33, 1);
        trade(x, 1, 0, 1, 57, 1);
        trade(x, 0, 1, 2, 100, 3);
        is("without scenarios", x.margin(0), 0);
        is("first", x.scenario(-10, 10, 0), 1);
        is("-3.3 and -5.7 are 3 and 5", x.margin(0), 8);
        is("the other way it wins", x.margin(1), 0);
        is("second", x.scenario(50, 50, 50), 2);
        is("a gain is no loss", x.margin(0), 8);
        is("16 - 28 + 150", x.margin(1), 138);
        is("third", x.scenario(0, 0, -50), 3);
        is("the greatest", x.margin(0), 150);
        is("fourth", x.scenario(-50, -50, -50), 4);
        is("one more percent is out of range", x.margin(0), 150);
        notNow("a fifth", () -> x.scenario(0, 0, 0));
        outOfRange("a fifth out of range", () -> x.scenario(51, 0, 0));
        NettingHall y = new NettingHall();
        for (int none : new int[] {-51, 51, FAR[0], FAR[1]}) {
            outOfRange("scenario", () -> y.scenario(none, 0, 0));
            outOfRange("scenario", () -> y.scenario(0, none, 0));
            outOfRange("scenario", () -> y.scenario(0, 0, none));
            noSuch("margin", () -> x.margin(none));
            noSuch("worth", () -> x.worth(none));
        }
        noSuch("margin", () -> x.margin(-1));
        noSuch("margin", () -> x.margin(5));
        noSuch("worth", () -> x.worth(-1));
        noSuch("worth", () -> x.worth(5));
        x.deposit(0, 1000);
        x.fund(0, 500);
        is("cash and deposit, and positions at last prices", x.worth(0), -276 + 1000 + 33 - 57 + 300);
        trade(x, 3, 4, 2, 90, 1);
        is("the last price changes it", x.worth(0), 970);
        is("and the margin", x.margin(0), 135);
    }

    private static void membersAndTicks() {
        about("27 member, 28 tick");
        NettingHall x = new NettingHall();
        is("nothing", x.tick(50), 0);
        trade(x, 1, 0, 0, 100, 20);
        x.deposit(0, 5000);
        x.scenario(-20, 0, 0);
        x.deposit(1, 401);
        x.tick(1);
        is("399 is less than 400", x.member(1), 1);
        is("fine", x.member(0), 0);
        x.deposit(1, 1);
        is("called until the end of a tick", x.member(1), 1);
        x.tick(1);
        is("as much is enough", x.member(1), 0);
        trade(x, 3, 2, 0, 99, 1);
        x.deposit(2, 100);
        x.deposit(3, 100);
        x.tick(1);
        is("called anew", x.member(1), 1);
        is("not yet", x.tick(2), 0);
        is("called for 2 ticks", x.member(1), 1);
        is("3 ticks behind the call", x.tick(1), 1);
        is("failed", x.member(1), 2);
        is("the last price moves on", x.tick(50), 1);
        for (int none : new int[] {0, -1, 51, FAR[0], FAR[1]}) {
            outOfRange("tick", () -> x.tick(none));
            noSuch("member", () -> x.member(none == 0 ? 5 : none));
        }
    }

    private static void failing() {
        about("28 tick, failing");
        NettingHall x = new NettingHall();
        trade(x, 1, 0, 0, 100, 20);
        trade(x, 2, 0, 0, 100, 10);
        x.order(1, 0, BUY, 1, 5, 0, DAY);
        x.stop(1, 1, BUY, 1, 5, 5);
        x.order(1, 2, SELL, 9, 5, 0, DAY);
        x.tie(4, 5);
        x.deposit(0, 100);
        trade(x, 3, 4, 0, 60, 1);
        x.deposit(3, 100);
        x.deposit(4, 100);
        x.copy(0);
        is("both are called, one fails a time", x.tick(9), 1);
        is("the lowest number", x.member(1), 2);
        is("the other one waits for the settling", x.member(2), 1);
        is("orders go", x.standing(4), 0);
        is("stops as well", x.standing(5), 0);
        is("of every instrument", x.standing(6), 0);
        is("the feed tells it", x.read(0), 1);
        is("and the other", x.read(0), 2 * 100000 + 50000 + 9);
        notNow("it can do nothing", () -> x.order(1, 0, BUY, 1, 1, 0, DAY));
        is("settled, uncovered", x.settle(), 20 * 40 + 2);
        is("settled", x.member(1), 3);
        is("what the house has stays", x.position(-1, 0), 20);
        is("the next tick lets the other one fail", x.tick(1), 2);
        is("its position comes to that", x.position(-1, 0), 30);
        is("what it is told to have cost", x.sell(0, 0, 60), 30);
        is("only what was missing is uncovered, nothing was lost", x.money(-1, 1), 802 + 401);
        is("and settled", x.member(2), 3);

        NettingHall y = new NettingHall();
        trade(y, 1, 0, 0, 100, 1);
        trade(y, 2, 0, 0, 90, 1);
        y.deposit(0, 50);
        y.deposit(2, 50);
        is("fails", y.tick(4), 1);
        y.sell(0, 2, 90);
        is("settled at once", y.member(1), 3);
        NettingHall z = new NettingHall();
        trade(z, 1, 0, 0, 100, 10);
        z.breakTrade(0);
        trade(z, 1, 0, 0, 100, 10);
        trade(z, 0, 1, 0, 90, 10);
        is("without positions, 100 are missing", z.worth(1), -101);
        is("fails", z.tick(4), 1);
        is("and is settled at once", z.member(1), 3);
        is("uncovered", z.money(-1, 1), 101);
    }

    private static void sales() {
        about("29 sell");
        NettingHall x = withFailed();
        for (int none : new int[] {-1, 5, FAR[0], FAR[1]}) {
            noSuch("instrument", () -> x.sell(none == 5 ? 3 : none, 0, 0));
            noSuch("member", () -> x.sell(0, none, 0));
            outOfRange("price", () -> x.sell(0, 0, none == 5 ? 10000 : none));
        }
        outOfRange("price 0", () -> x.sell(0, 0, 0));
        notNow("it has none of that", () -> x.sell(1, 0, 1));
        notNow("to who has failed", () -> x.sell(0, 1, 1));
        long cash = x.money(2, 0);
        is("sold", x.sell(0, 2, 50), 20);
        is("to that member", x.position(2, 0), 15);
        is("for that", x.money(2, 0), cash - 1000);
        is("no trade", x.trades(), 2);
        is("the last price stays", x.instrument(0), 600);
        is("it is settled", x.member(1), 3);
        is("uncovered: 802, and 200 by the sale", x.money(-1, 1), 1002);
        notNow("it has none any more", () -> x.sell(0, 2, 50));

        NettingHall y = new NettingHall();
        trade(y, 0, 1, 0, 100, 20);
        trade(y, 1, 0, 1, 100, 20);
        trade(y, 3, 2, 0, 160, 5);
        y.deposit(2, 1000);
        y.tick(4);
        is("short", y.position(-1, 0), -20);
        is("sold as it is", y.sell(0, 0, 170), -20);
        is("not settled yet", y.member(1), 2);
        is("the rest at a gain", y.sell(1, 0, 105), 20);
        is("settled then", y.member(1), 3);
        is("200 lost, 100 won", y.money(-1, 1), 1200 + 2 + 100);
    }

    private static void settling() {
        about("30 settle");
        NettingHall x = new NettingHall();
        notNow("nobody", () -> x.settle());
        NettingHall y = withFailed();
        y.fund(-1, 1);
        is("uncovered", y.settle(), 801);
        is("in all", y.money(-1, 1), 801);
        is("the house keeps it", y.position(-1, 0), 20);
        notNow("it was", () -> y.settle());
        long house = y.money(-1, 0);
        is("sold later", y.sell(0, 0, 10), 20);
        is("a loss for none", y.money(-1, 1), 801);
        is("but for the house", y.money(-1, 0), house + 200);
        NettingHall z = withFailed();
        trade(z, 0, 2, 1, 100, 10);
        z.settle();
        is("no one more", z.tick(1), 1);
        trade(z, 3, 2, 0, 500, 5);
        trade(z, 4, 3, 0, 500, 1);
        is("who is short fails", z.tick(4), 2);
        is("member 0", z.member(0), 2);
        is("the house comes to no position", z.position(-1, 0), 0);
        is("of another there is one", z.position(-1, 1), 10);
        z.sell(1, 4, 100);
        is("it is settled by that, at no loss", z.member(0), 3);
    }

    private static void fundInOrder() {
        about("30 settle, in order");
        NettingHall x = new NettingHall();
        trade(x, 1, 0, 0, 100, 20);
        x.deposit(0, 9000);
        x.deposit(1, 300);
        x.fund(1, 100);
        x.fund(-1, 50);
        x.fund(0, 7);
        x.fund(2, 300);
        x.fund(3, 300);
        x.fund(4, 1);
        trade(x, 3, 2, 0, 60, 5);
        x.deposit(3, 9000);
        x.deposit(2, 9000);
        x.tick(4);
        is("802 are missing, less the deposit", x.money(1, 0), -802);
        long house = x.money(-1, 0);
        x.sell(0, 0, 55);
        is("settled", x.member(1), 3);
        is("cash", x.money(1, 0), 0);
        is("deposit", x.money(1, 1), 0);
        is("share", x.money(1, 2), 0);
        is("capital", x.money(-1, 2), 0);
        is("502 missing and 100 lost, less 150: 452 of 608: 5.2, and the one that is left", x.money(0, 2), 7 - 5 - 1);
        is("223.02", x.money(2, 2), 300 - 223);
        is("223.02", x.money(3, 2), 300 - 223);
        is("0.7", x.money(4, 2), 1);
        is("nothing is uncovered", x.money(-1, 1), 0);
        is("the house has what it lost", x.money(-1, 0), house + 1100 + 100);

        NettingHall y = new NettingHall();
        trade(y, 1, 0, 0, 100, 20);
        trade(y, 0, 1, 0, 100, 10);
        trade(y, 3, 2, 0, 60, 5);
        y.scenario(-50, 0, 0);
        y.deposit(1, 600);
        y.deposit(0, 9000);
        y.deposit(3, 9000);
        y.deposit(2, 9000);
        y.fund(1, 10);
        y.tick(4);
        is("its margin was not met", y.member(1), 2);
        is("it has something", y.worth(1), -2000 - 2 + 1000 + 600 + 10 * 60);
        long cash = y.money(-1, 0);
        y.sell(0, 0, 55);
        is("50 were lost, and taken from its cash", y.money(1, 0), 198 - 50);
        is("its share stays", y.money(1, 2), 10);
        is("the house gets them", y.money(-1, 0), cash + 550 + 50);
    }

    private static void fundByShares() {
        about("30 settle, by shares");
        int[][] shares = {{1, 1, 1000}, {0, 1, 0}, {0, 0, 0}, {400, 400, 2}, {1, 2, 1000}, {3, 300, 1}};
        int[] needed = {501, 5, 5, 802, 502, 150};
        int[][] left = {{0, 1, 500}, {0, 0, 0}, {0, 0, 0}, {0, 0, 0}, {0, 1, 500}, {1, 152, 1}};
        int[] uncovered = {0, 4, 5, 0, 0, 0};
        int[] members = {0, 2, 4};
        for (int i = 0; i < shares.length; i++) {
            NettingHall y = missing(needed[i], shares[i]);
            is(i + ": uncovered", y.money(-1, 1), uncovered[i]);
            for (int m = 0; m < 3; m++) {
                is(i + ": share of " + members[m], y.money(members[m], 2), left[i][m]);
            }
        }
    }

    /** A hall in which member 1 has failed and is settled: an amount was missing; 0, 2 and 4 had shares. */
    private static NettingHall missing(int amount, int[] shares) {
        NettingHall x = new NettingHall();
        int[] members = {0, 2, 4};
        for (int m = 0; m < 3; m++) {
            if (shares[m] > 0) {
                x.fund(members[m], shares[m]);
            }
        }
        x.order(0, 0, SELL, amount + 1, 1, 0, DAY);
        x.order(1, 0, BUY, amount + 1, 1, 0, DAY);
        x.order(3, 0, SELL, 1, 1, 0, DAY);
        x.order(2, 0, BUY, 1, 1, 0, DAY);
        x.deposit(0, 10);
        x.deposit(2, 10);
        x.tick(4);
        x.sell(0, 3, 1);
        return x;
    }

    private static void readers() {
        about("31 read");
        NettingHall x = new NettingHall();
        is("none", x.read(0), -1);
        x.order(0, 2, SELL, 30, 5, 2, DAY);
        x.order(0, 0, BUY, 20, 5, 0, DAY);
        x.order(0, 0, BUY, 10, 5, 0, DAY);
        is("first", x.read(0), 250030);
        is("copied: two are missing", x.wrong(0), 2);
        is("the other reader has none", x.wrong(1), 3);
        x.order(1, 0, SELL, 10, 10, 0, DAY);
        is("second", x.read(0), 20);
        is("third", x.read(0), 10);
        is("fourth, by rising prices", x.read(0), 10);
        is("20 is still wrong", x.wrong(0), 1);
        is("fifth", x.read(0), 20);
        is("all is right", x.wrong(0), 0);
        is("no further one", x.read(0), -1);
        x.order(1, 2, BUY, 30, 2, 0, DAY);
        is("what is shown is the same as it was: no message", x.read(0), -1);
        x.order(1, 2, BUY, 30, 2, 0, DAY);
        is("less is shown", x.read(0), 250030);
        for (int i = 0; i < 26; i++) {
            x.order(1, 1, BUY, 100 + i, 1, 0, DAY);
        }
        is("the latest 30 of 32 are kept", x.read(1), -2);
        is("it goes on with the first of those", x.read(1), 10);
        for (int i = 0; i < 29; i++) {
            x.read(1);
        }
        is("no further one", x.read(1), -1);
        is("the lost ones are wrong: 2 / 30 was told again, 10 and 20 are gone", x.wrong(1), 0);
        for (int none : new int[] {-1, 2, FAR[0], FAR[1]}) {
            noSuch("read", () -> x.read(none));
        }
        NettingHall y = new NettingHall();
        y.order(0, 0, BUY, 9, 1, 0, DAY);
        y.order(0, 1, BUY, 9, 1, 0, DAY);
        y.order(0, 0, SELL, 11, 1, 0, DAY);
        y.copy(0);
        y.split(0, 2);
        is("a split is told: 4", y.read(0), 4);
        is("9", y.read(0), 9);
        is("then the other side: 5", y.read(0), 50005);
        is("11", y.read(0), 50011);
        is("no more", y.read(0), -1);
        is("right", y.wrong(0), 0);
        for (int i = 0; i < 30; i++) {
            y.order(1, 2, BUY, 1 + i, 1, 0, DAY);
        }
        is("30 are kept", y.read(0), 200001);
    }

    private static void lostAndCopied() {
        about("32 lose, 33 copy, 34 wrong");
        NettingHall x = new NettingHall();
        notNow("none", () -> x.lose(0));
        x.order(0, 0, BUY, 10, 5, 0, DAY);
        x.order(0, 0, BUY, 11, 5, 0, DAY);
        x.cancel(0);
        is("two more", x.lose(0), 2);
        x.read(0);
        x.read(0);
        is("right by luck", x.wrong(0), 0);
        is("the other reader", x.read(1), 10);
        is("one more", x.lose(1), 1);
        is("wrong at 10 and 11", x.wrong(1), 2);
        is("none", x.lose(1), 0);
        notNow("none any more", () -> x.lose(1));
        is("still wrong", x.wrong(1), 2);
        is("a copy of one price", x.copy(1), 1);
        is("right", x.wrong(1), 0);
        x.order(1, 0, BUY, 11, 2, 0, DAY);
        is("wrong again", x.wrong(1), 1);
        is("read", x.read(1), 11);
        is("right", x.wrong(1), 0);
        for (int i = 0; i < 33; i++) {
            x.order(1, 1, BUY, 100 + i, 1, 0, DAY);
        }
        is("by their numbers", x.lose(1), 32);
        is("then they are kept no more", x.read(1), -2);
        is("30 are", x.lose(1), 29);
        is("a copy of all", x.copy(0), 34);
        is("it reads what comes next", x.read(0), -1);
        x.cancel(3);
        is("that", x.read(0), 100100);
        for (int none : new int[] {-1, 2, FAR[0], FAR[1]}) {
            noSuch("lose", () -> x.lose(none));
            noSuch("copy", () -> x.copy(none));
            noSuch("wrong", () -> x.wrong(none));
        }
        NettingHall y = new NettingHall();
        is("nothing is shown", y.copy(0), 0);
    }

    private static void replay() {
        about("35 replays");
        NettingHall x = withFailed();
        is("all is the same", x.replays() ? 1 : 0, 1);
        x.fund(2, 9);
        x.fund(-1, 9);
        x.band(1, 9);
        x.scenario(1, 2, 3);
        x.order(2, 1, SELL, 50, 9, 2, DAY);
        x.order(2, 2, BUY, 50, 9, 2, DAY);
        x.tie(4, 5);
        x.spread(3, 1, 2, 4, 9);
        x.stop(0, 1, SELL, 9, 9, 9);
        x.order(4, 1, BUY, 9, 9, 0, REST);
        x.cancel(7);
        x.halt(1);
        x.split(1, 2);
        x.open(1);
        x.dividend(0, 3);
        x.sell(0, 4, 9);
        throwsIt("settle", "IllegalStateException", () -> x.settle());
        x.tick(9);
        is("all is the same", x.replays() ? 1 : 0, 1);
        is("again", x.replays() ? 1 : 0, 1);
        x.breakTrade(2);
        x.order(3, 1, BUY, 50, 1, 0, ALL);
        is("and then", x.replays() ? 1 : 0, 1);
        is("nothing was changed by it", x.trade(2, 3), 1);
        NettingHall y = new NettingHall();
        for (int i = 0; i < 500; i++) {
            y.deposit(i % 5, 1 + i);
        }
        is("many calls", y.replays() ? 1 : 0, 1);
    }

    private static void nothingChangesByThrow() {
        about("a call that throws changes nothing");
        NettingHall x = new NettingHall();
        x.order(0, 0, SELL, 100, 5, 0, DAY);
        x.halt(1);
        nameOf(() -> x.order(1, 0, BUY, 100, 5, 6, DAY));
        nameOf(() -> x.order(1, 1, BUY, 100, 5, 0, NOW));
        nameOf(() -> x.spread(1, 0, 1, 5, 9998));
        nameOf(() -> x.stop(1, 0, BUY, 100, 5, 0));
        nameOf(() -> x.split(0, 9));
        nameOf(() -> x.deposit(0, 0));
        nameOf(() -> x.tick(0));
        nameOf(() -> x.dividend(0, 0));
        nameOf(() -> x.band(0, 99));
        is("standing", x.standing(0), 51);
        noSuch("no order came", () -> x.standing(1));
        is("deposit", x.money(0, 1), 0);
        is("band", x.band(0, 1), 0);
        is("instrument", x.instrument(0), 0);
        is("trades", x.trades(), 0);
        is("replays", x.replays() ? 1 : 0, 1);
    }
}
