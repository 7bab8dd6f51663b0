/** Feeds, replay and watching (promises 7, 27, 31 to 35): a test for each sentence that names a boundary. */
public class FeedEdges extends Checks {
    private static final int SIDE = 50000, PAPER = 100000;
    private static final int NO_MORE = -1, NOT_KEPT = -2;

    public static void main(String[] args) {
        emptyAtFirst();
        numbersOfMessages();
        risingOrder();
        anotherQuantityInAll();
        usedUpAndShownAnew();
        oneGoesAndOneComes();
        callsWithoutMessages();
        refusedAndThrown();
        messagesOfCancels();
        messagesOfOwnOrdersAndTies();
        messagesOfSpreads();
        messagesOfOpenings();
        messagesOfStops();
        messagesOfSplits();
        messagesOfFailing();
        thirtyAreKept();
        thirtyOneAreNot();
        manyByOneCall();
        notKeptAgainAndAgain();
        theKeptGoRound();
        readersAreTwo();
        loses();
        losesWhatIsNotKept();
        losesAndIsWrong();
        copies();
        copiesInPlaceOfOldOnes();
        wrongEverywhere();
        wrongByChanceRight();
        readsWhatIsOld();
        watchedForTwoTicks();
        watchedOnTheOtherSide();
        watchedInTheseTicks();
        watchedStops();
        watchedCancelsAlone();
        watchedOnceForEach();
        watchedByAnyTrade();
        replaysEachCall();
        replaysAgainFromNothing();
        replaysBehindThrows();
        replaysChangeNothing();
        fiveHundredAndTwelveCalls();
        end("feeds, watching and replay");
    }

    private static int at(int instrument, int side, int price) {
        return PAPER * instrument + SIDE * side + price;
    }

    /** Lets a reader read all, and compares that with what is due. */
    private static void reads(NettingHall x, int reader, int... due) {
        for (int i = 0; i < due.length; i++) {
            is("message " + i + " of " + due.length, x.read(reader), due[i]);
        }
        is("behind these", x.read(reader), NO_MORE);
    }

    private static void readsAll(NettingHall x, int... due) {
        reads(x, 0, due);
        is("what it knows is right", x.wrong(0), 0);
    }

    /** So many orders that buy instrument 0 at the prices from 1 on, one each, of a member. */
    private static NettingHall withLevels(int member, int count) {
        NettingHall x = new NettingHall();
        for (int i = 1; i <= count; i++) {
            x.order(member, 0, BUY, i, 1, 0, DAY);
        }
        return x;
    }

    private static void emptyAtFirst() {
        about("each with a copy of what is shown, empty at first");
        NettingHall x = new NettingHall();
        for (int reader = 0; reader < 2; reader++) {
            int who = reader;
            is("read", x.read(who), NO_MORE);
            is("again", x.read(who), NO_MORE);
            notNow("lose", () -> x.lose(who));
            is("wrong", x.wrong(who), 0);
            is("copy", x.copy(who), 0);
            is("read behind it", x.read(who), NO_MORE);
        }
        x.order(0, 0, BUY, 5, 1, 0, DAY);
        is("one message, by number 0", x.read(0), 5);
        is("then none", x.read(0), NO_MORE);
        notNow("none to lose", () -> x.lose(0));
    }

    private static void numbersOfMessages() {
        about("100000 * the instrument + 50000 * the side + the price");
        NettingHall x = new NettingHall();
        int[] prices = {1, 9999};
        for (int i = 0; i < 3; i++) {
            for (int side = 0; side < 2; side++) {
                for (int price : prices) {
                    if (side == BUY && price == 9999) {
                        continue;
                    }
                    x.halt(i);
                    x.order(0, i, side, price, 1, 0, DAY);
                    x.open(i);
                    is("read", x.read(0), at(i, side, price));
                    is("none behind it", x.read(0), NO_MORE);
                    x.cancel(orders(x) - 1);
                    is("gone", x.read(0), at(i, side, price));
                }
            }
        }
        NettingHall y = new NettingHall();
        y.order(0, 2, SELL, 9999, 1000, 1000, DAY);
        y.order(0, 2, BUY, 9998, 1000, 1000, DAY);
        is("the greatest", y.read(0), 259999);
        is("of those that buy", y.read(0), 209998);
    }

    private static int orders(NettingHall x) {
        int count = 0;
        while (exists(x, count)) {
            count++;
        }
        return count;
    }

    private static boolean exists(NettingHall x, int order) {
        return nameOf(() -> x.standing(order)).equals(NOTHING);
    }

    private static void risingOrder() {
        about("for each instrument, side and price, in this order, rising");
        NettingHall x = new NettingHall();
        x.order(0, 0, SELL, 7, 1, 0, DAY);
        x.order(0, 0, SELL, 5, 1, 0, DAY);
        x.order(0, 0, SELL, 6, 1, 0, DAY);
        readsAll(x, at(0, 1, 7), at(0, 1, 5), at(0, 1, 6));
        x.order(1, 0, BUY, 7, 5, 0, DAY);
        readsAll(x, at(0, 0, 7), at(0, 1, 5), at(0, 1, 6), at(0, 1, 7));
        NettingHall y = new NettingHall();
        trade(y, 1, 0, 2, 100, 9);
        y.order(1, 2, SELL, 200, 1, 0, DAY);
        y.order(1, 2, BUY, 3, 1, 0, DAY);
        y.order(1, 1, SELL, 9999, 1, 0, DAY);
        y.order(1, 1, SELL, 1, 1, 0, DAY);
        y.order(1, 0, SELL, 5000, 1, 0, DAY);
        y.order(1, 0, BUY, 4999, 1, 0, DAY);
        y.scenario(0, 0, -50);
        y.deposit(0, 9000);
        y.copy(0);
        y.tick(4);
        readsAll(y, 4999, at(0, 1, 5000), at(1, 1, 1), at(1, 1, 9999), at(2, 0, 3), at(2, 1, 200));
    }

    private static void anotherQuantityInAll() {
        about("at which another quantity is shown in all than ahead of the call");
        NettingHall x = new NettingHall();
        x.order(0, 0, BUY, 5, 3, 0, DAY);
        x.order(1, 0, BUY, 5, 4, 0, DAY);
        readsAll(x, 5, 5);
        is("7 in all", x.shown(0, BUY, 5), 7);
        x.order(2, 0, SELL, 5, 3, 0, NOW);
        readsAll(x, 5);
        x.order(2, 0, SELL, 5, 1, 0, NOW);
        readsAll(x, 5);
        x.order(2, 0, SELL, 5, 4, 0, DAY);
        is("gone", x.read(0), 5);
        is("1 is left, to be sold", x.read(0), at(0, 1, 5));
        is("right", x.wrong(0), 0);
    }

    private static void usedUpAndShownAnew() {
        about("what is hidden is not shown: another part as great is no message");
        NettingHall x = new NettingHall();
        x.order(0, 0, SELL, 5, 8, 3, DAY);
        readsAll(x, at(0, 1, 5));
        x.order(1, 0, BUY, 5, 3, 0, NOW);
        readsAll(x);
        is("3 are shown anew", x.shown(0, SELL, 5), 3);
        x.order(1, 0, BUY, 5, 2, 0, NOW);
        readsAll(x, at(0, 1, 5));
        x.order(1, 0, BUY, 5, 1, 0, NOW);
        readsAll(x, at(0, 1, 5));
        is("the last 2", x.shown(0, SELL, 5), 2);
        x.order(1, 0, BUY, 5, 2, 0, NOW);
        readsAll(x, at(0, 1, 5));
        is("none", x.shown(0, SELL, 5), 0);
        NettingHall y = new NettingHall();
        y.order(0, 0, SELL, 5, 900, 1, DAY);
        y.order(1, 0, BUY, 5, 100, 0, NOW);
        is("100 trades", y.trades(), 100);
        readsAll(y, at(0, 1, 5));
    }

    private static void oneGoesAndOneComes() {
        about("as much as ahead of the call is no message, whoever shows it");
        NettingHall x = new NettingHall();
        x.order(0, 0, SELL, 10, 2, 0, DAY);
        x.stop(1, 0, SELL, 10, 2, 10);
        readsAll(x, at(0, 1, 10));
        x.order(2, 0, BUY, 10, 2, 0, NOW);
        is("another one stands there", x.standing(1), 21);
        readsAll(x);
    }

    private static void callsWithoutMessages() {
        about("no messages by calls that change nothing in the books");
        NettingHall x = new NettingHall();
        x.order(0, 0, BUY, 5, 3, 0, DAY);
        x.order(0, 0, BUY, 6, 3, 0, DAY);
        trade(x, 1, 2, 1, 5, 5);
        x.copy(0);
        x.deposit(0, 5);
        x.fund(HOUSE, 5);
        x.stop(0, 0, SELL, 7, 7, 7);
        x.tie(0, 1);
        x.spread(3, 0, 1, 5, 9998);
        x.band(0, 50);
        x.halt(1);
        x.halt(2);
        x.open(2);
        x.split(2, 2);
        x.dividend(1, 5);
        x.breakTrade(0);
        x.scenario(1, 1, 1);
        x.deposit(2, 900);
        x.deposit(1, 900);
        x.tick(50);
        x.cancel(x.stop(0, 0, SELL, 8, 8, 8));
        x.read(1);
        x.lose(1);
        x.replays();
        x.order(4, 0, SELL, 7, 3, 0, NOW);
        readsAll(x);
    }

    private static void refusedAndThrown() {
        about("a call that is refused, or throws, is no message");
        NettingHall x = new NettingHall();
        x.order(0, 0, BUY, 5, 3, 0, DAY);
        x.order(1, 0, SELL, 6, 3, 0, DAY);
        x.copy(0);
        is("ALL", x.order(1, 0, SELL, 5, 4, 0, ALL), -1);
        is("REST", x.order(1, 0, SELL, 5, 4, 0, REST), -1);
        is("ALL, with an own order in its way", x.order(0, 0, SELL, 5, 4, 0, ALL), -1);
        notNow("open", () -> x.open(0));
        outOfRange("cancel ahead of it", () -> x.order(0, 0, BUY, 5, 0, 0, DAY));
        noSuch("cancel", () -> x.cancel(2));
        x.cancel(x.stop(0, 0, BUY, 1, 1, 1));
        notNow("cancel", () -> x.cancel(2));
        readsAll(x);
    }

    private static void messagesOfCancels() {
        about("messages of cancels");
        NettingHall x = new NettingHall();
        x.order(0, 0, BUY, 5, 30, 10, DAY);
        x.order(1, 0, BUY, 5, 3, 0, DAY);
        x.copy(0);
        is("30", x.cancel(0), 30);
        is("10 less are shown", x.shown(0, BUY, 5), 3);
        readsAll(x, 5);
        is("3", x.cancel(1), 3);
        readsAll(x, 5);
        is("none are left", x.copy(1), 0);
    }

    private static void messagesOfOwnOrdersAndTies() {
        about("messages of own orders that are taken away, and of tied ones that go");
        NettingHall x = new NettingHall();
        x.order(0, 0, SELL, 5, 3, 0, DAY);
        x.order(0, 0, SELL, 6, 3, 0, DAY);
        x.order(1, 0, SELL, 7, 3, 0, DAY);
        x.order(1, 2, BUY, 70, 3, 0, DAY);
        x.tie(2, 3);
        x.copy(0);
        x.order(0, 0, BUY, 7, 3, 0, NOW);
        readsAll(x, at(0, 1, 5), at(0, 1, 6), at(0, 1, 7), at(2, 0, 70));
    }

    private static void messagesOfSpreads() {
        about("messages of spreads");
        NettingHall x = new NettingHall();
        x.order(0, 0, SELL, 50, 5, 0, DAY);
        x.order(1, 2, BUY, 40, 9, 4, DAY);
        x.copy(0);
        is("5", x.spread(2, 0, 2, 9, 10), 5);
        is("3 of the second part are shown", x.shown(2, BUY, 40), 3);
        readsAll(x, at(0, 1, 50), at(2, 0, 40));
    }

    private static void messagesOfOpenings() {
        about("messages of openings");
        NettingHall x = new NettingHall();
        x.halt(0);
        x.order(0, 0, SELL, 50, 10, 3, DAY);
        x.order(1, 0, BUY, 50, 4, 0, DAY);
        x.copy(0);
        is("4", x.open(0), 4);
        is("3 of 6 are shown", x.shown(0, SELL, 50), 3);
        readsAll(x, 50);
        x.halt(0);
        readsAll(x);
        x.order(1, 0, BUY, 50, 4, 0, DAY);
        readsAll(x, 50);
        x.open(0);
        readsAll(x, 50, at(0, 1, 50));
        is("2 of 2", x.shown(0, SELL, 50), 2);
    }

    private static void messagesOfStops() {
        about("messages of stops: all of it is shown when it stands");
        NettingHall x = new NettingHall();
        x.stop(0, 0, BUY, 40, 1000, 50);
        readsAll(x);
        x.order(1, 0, SELL, 50, 1, 0, DAY);
        readsAll(x, at(0, 1, 50));
        x.order(2, 0, BUY, 50, 1, 0, NOW);
        readsAll(x, 40, at(0, 1, 50));
        is("1000", x.shown(0, BUY, 40), 1000);
    }

    private static void messagesOfSplits() {
        about("messages of splits");
        NettingHall x = new NettingHall();
        x.order(0, 0, BUY, 8, 4, 0, DAY);
        x.order(0, 0, BUY, 4, 8, 0, DAY);
        x.order(0, 0, SELL, 9, 5, 2, DAY);
        x.order(0, 1, SELL, 9, 5, 2, DAY);
        x.copy(0);
        x.split(0, 2);
        is("8 at 4, as ahead of it", x.shown(0, BUY, 4), 8);
        readsAll(x, 2, 8, at(0, 1, 4), at(0, 1, 9));
        about("at least 1: orders at 1 show more there");
        NettingHall y = new NettingHall();
        y.order(0, 0, BUY, 1, 4, 0, DAY);
        y.order(0, 0, BUY, 2, 4, 0, DAY);
        y.copy(0);
        y.split(0, 2);
        is("16", y.shown(0, BUY, 1), 16);
        readsAll(y, 1, 2);
    }

    private static void messagesOfFailing() {
        about("behind a call of many ticks there is one message for each price");
        NettingHall x = new NettingHall();
        trade(x, 1, 0, 2, 100, 1);
        trade(x, 0, 1, 2, 1, 1);
        trade(x, 2, 0, 2, 100, 1);
        trade(x, 0, 2, 2, 1, 1);
        x.order(1, 0, BUY, 7, 5, 0, DAY);
        x.order(2, 0, BUY, 7, 6, 0, DAY);
        x.order(2, 0, BUY, 6, 6, 0, DAY);
        x.copy(0);
        is("both fail", x.tick(50), 2);
        readsAll(x, 6, 7);
    }

    private static void thirtyAreKept() {
        about("the latest 30 are kept");
        NettingHall x = withLevels(0, 30);
        for (int i = 1; i <= 30; i++) {
            is("message " + i, x.read(0), i);
        }
        is("all are read", x.read(0), NO_MORE);
        is("right", x.wrong(0), 0);
        is("of the other one 30 are missing", x.wrong(1), 30);
    }

    private static void thirtyOneAreNot() {
        about("-2 if it is kept no more: then the reader goes on with the first one that is");
        NettingHall x = withLevels(0, 31);
        is("the first one is not", x.read(0), NOT_KEPT);
        is("nothing was read by that", x.wrong(0), 31);
        for (int i = 2; i <= 31; i++) {
            is("message " + i, x.read(0), i);
        }
        is("all are read", x.read(0), NO_MORE);
        is("the first is missing", x.wrong(0), 1);
        NettingHall y = withLevels(0, 29);
        is("the first", y.read(1), 1);
        y.order(0, 0, BUY, 30, 1, 0, DAY);
        y.order(0, 0, BUY, 31, 1, 0, DAY);
        is("the second is the first kept", y.read(1), 2);
        y.order(0, 0, BUY, 32, 1, 0, DAY);
        y.order(0, 0, BUY, 33, 1, 0, DAY);
        is("the third is not", y.read(1), NOT_KEPT);
        is("the fourth is", y.read(1), 4);
    }

    private static void manyByOneCall() {
        about("also if one call makes more than 30");
        NettingHall x = new NettingHall();
        for (int i = 0; i < 120; i++) {
            x.order(0, 0, BUY, 5001 + i, 1, 0, DAY);
        }
        is("all prices", x.copy(0), 120);
        x.split(0, 2);
        is("61 and 120 are not the same", x.wrong(0), 181);
        is("not kept", x.read(0), NOT_KEPT);
        for (int i = 91; i <= 120; i++) {
            is("of the last 30", x.read(0), 5000 + i);
        }
        is("no more", x.read(0), NO_MORE);
        is("151 were not read", x.wrong(0), 151);
        is("2500 to 2560", x.copy(0), 61);
        is("right then", x.wrong(0), 0);
        about("also by a failing");
        NettingHall y = new NettingHall();
        trade(y, 1, 0, 2, 100, 1);
        trade(y, 0, 1, 2, 1, 1);
        y.copy(0);
        for (int i = 1; i <= 31; i++) {
            y.order(1, 0, BUY, i, 1, 0, DAY);
            y.read(0);
        }
        is("right", y.wrong(0), 0);
        y.tick(4);
        is("31 go at once", y.read(0), NOT_KEPT);
        for (int i = 2; i <= 31; i++) {
            is("gone", y.read(0), i);
        }
        is("the first is still in the copy", y.wrong(0), 1);
    }

    private static void notKeptAgainAndAgain() {
        about("what is kept no more by now");
        NettingHall x = withLevels(0, 40);
        is("not kept", x.read(0), NOT_KEPT);
        x.order(0, 0, BUY, 41, 1, 0, DAY);
        is("not kept any more", x.read(0), NOT_KEPT);
        is("the twelfth is", x.read(0), 12);
        is("the thirteenth", x.read(0), 13);
        x.order(0, 0, BUY, 42, 1, 0, DAY);
        x.order(0, 0, BUY, 43, 1, 0, DAY);
        is("the fourteenth is the first kept", x.read(0), 14);
        is("of the other one", x.read(1), NOT_KEPT);
        is("goes on there, too", x.read(1), 14);
    }

    private static void theKeptGoRound() {
        about("messages go on beyond 30, 60, 90 and so on");
        NettingHall x = new NettingHall();
        for (int i = 0; i < 120; i++) {
            x.order(0, i % 3, BUY, i + 1, 1, 0, DAY);
            is("read at once", x.read(0), at(i % 3, 0, i + 1));
            if (i >= 29) {
                is("read 30 later", x.read(1), at((i - 29) % 3, 0, i - 28));
            }
        }
        is("29 are missing", x.wrong(1), 29);
        for (int i = 0; i < 50; i++) {
            x.cancel(i);
            is("gone, read at once", x.read(0), at(i % 3, 0, i + 1));
            int old = i < 29 ? 91 + i : i - 29;
            is("30 later", x.read(1), at(old % 3, 0, old + 1));
        }
        is("no more", x.read(0), NO_MORE);
        is("right", x.wrong(0), 0);
        is("29 more than there are", x.wrong(1), 29);
    }

    private static void readersAreTwo() {
        about("there are the readers 0 and 1");
        NettingHall x = withLevels(0, 3);
        is("one reads", x.read(0), 1);
        is("one loses", x.lose(0), 1);
        is("the other one has all", x.read(1), 1);
        is("and all", x.read(1), 2);
        is("wrong", x.wrong(0) * 10 + x.wrong(1), 21);
        x.copy(0);
        is("a copy of one", x.wrong(0) * 10 + x.wrong(1), 1);
        is("nothing for this", x.read(0), NO_MORE);
        is("something for that", x.read(1), 3);
        noSuch("no third one", () -> x.read(2));
        noSuch("to lose", () -> x.lose(2));
        noSuch("to copy", () -> x.copy(2));
        noSuch("to be wrong", () -> x.wrong(2));
        noSuch("one below", () -> x.lose(-1));
    }

    private static void loses() {
        about("lets a reader lose the next message; returns how many it has still to read, by their numbers");
        NettingHall x = withLevels(0, 3);
        is("2 of 3", x.lose(0), 2);
        is("1", x.lose(0), 1);
        is("0", x.lose(0), 0);
        notNow("no further one", () -> x.lose(0));
        notNow("still", () -> x.lose(0));
        is("none to read", x.read(0), NO_MORE);
        x.cancel(0);
        is("of one more", x.lose(0), 0);
        is("the other one has 4", x.lose(1), 3);
    }

    private static void losesWhatIsNotKept() {
        about("by their numbers, also of those that are kept no more");
        NettingHall x = withLevels(0, 120);
        is("119 of 120", x.lose(0), 119);
        for (int i = 118; i >= 31; i--) {
            is("and so on", x.lose(0), i);
        }
        is("to 30", x.lose(0), 30);
        is("the first kept is next", x.read(0), 91);
        is("28 behind the next", x.lose(0), 28);
        NettingHall y = withLevels(0, 35);
        is("34", y.lose(0), 34);
        is("not kept", y.read(0), NOT_KEPT);
        is("29 of the 30 kept", y.lose(0), 29);
        is("the second one of these", y.read(0), 7);
        NettingHall z = withLevels(0, 31);
        is("loses the one that is not kept", z.lose(0), 30);
        is("and reads without a gap", z.read(0), 2);
    }

    private static void losesAndIsWrong() {
        about("what is lost is not in the copy");
        NettingHall x = withLevels(0, 2);
        x.read(0);
        x.lose(0);
        is("one is missing", x.wrong(0), 1);
        x.cancel(0);
        is("not read yet: one more than there is", x.wrong(0), 2);
        x.lose(0);
        is("lost: still", x.wrong(0), 2);
        x.order(1, 0, BUY, 2, 5, 0, DAY);
        is("the next message tells all that is shown there", x.read(0), 2);
        is("so only the first is wrong", x.wrong(0), 1);
        x.order(1, 0, BUY, 1, 5, 0, DAY);
        is("still another quantity", x.wrong(0), 1);
        x.read(0);
        is("right", x.wrong(0), 0);
    }

    private static void copies() {
        about("copy: returns how many prices have something");
        NettingHall x = new NettingHall();
        is("none", x.copy(0), 0);
        x.order(0, 0, BUY, 5, 1, 0, DAY);
        x.order(1, 0, BUY, 5, 1, 0, DAY);
        is("two orders at one price", x.copy(0), 1);
        x.order(1, 1, BUY, 5, 1, 0, DAY);
        is("of each instrument", x.copy(0), 2);
        x.order(1, 1, SELL, 6, 1, 0, DAY);
        is("of each side", x.copy(0), 3);
        x.halt(1);
        x.order(1, 1, SELL, 5, 1, 0, DAY);
        is("one price, both sides", x.copy(0), 4);
        x.stop(0, 2, BUY, 5, 5, 5);
        is("what waits is not shown", x.copy(0), 4);
        x.order(0, 2, BUY, 50, 9, 2, DAY);
        is("what is hidden makes no price", x.copy(0), 5);
        about("it reads what comes behind that next");
        is("nothing", x.read(0), NO_MORE);
        notNow("nothing to lose", () -> x.lose(0));
        x.cancel(0);
        is("what comes", x.read(0), 5);
        is("no more", x.read(0), NO_MORE);
        is("right", x.wrong(0), 0);
        NettingHall y = withLevels(0, 120);
        is("120", y.copy(1), 120);
        is("nothing, not a gap", y.read(1), NO_MORE);
        is("right", y.wrong(1), 0);
    }

    private static void copiesInPlaceOfOldOnes() {
        about("a copy of what is shown now, in place of what it knew");
        NettingHall x = withLevels(0, 3);
        x.copy(0);
        x.cancel(0);
        x.cancel(1);
        x.order(0, 2, SELL, 9, 9, 0, DAY);
        is("three are not right", x.wrong(0), 3);
        is("two now", x.copy(0), 2);
        is("right", x.wrong(0), 0);
        x.cancel(2);
        x.cancel(3);
        is("none", x.copy(0), 0);
        is("right", x.wrong(0), 0);
    }

    private static void wrongEverywhere() {
        about("how many instruments, sides and prices there are at which the copy tells another quantity");
        NettingHall x = new NettingHall();
        int due = 0;
        for (int i = 0; i < 3; i++) {
            x.order(0, i, BUY, 1, 1, 0, DAY);
            x.order(0, i, SELL, 9999, 1, 0, DAY);
            due += 2;
            is("each", x.wrong(0), due);
        }
        x.copy(0);
        is("none", x.wrong(0), 0);
        x.order(1, 0, BUY, 1, 1, 0, DAY);
        is("more than the copy tells", x.wrong(0), 1);
        x.cancel(2);
        is("nothing in place of it", x.wrong(0), 2);
        x.order(1, 2, BUY, 2, 1, 0, DAY);
        is("something in place of nothing", x.wrong(0), 3);
        x.order(2, 1, BUY, 9999, 1, 0, NOW);
        is("by a trade", x.wrong(0), 4);
        is("the other one knows nothing: 1, 9999; 2; 1, 2, 9999", x.wrong(1), 5);
        NettingHall y = withLevels(0, 120);
        is("120", y.wrong(0), 120);
    }

    private static void wrongByChanceRight() {
        about("what is right by chance is not wrong");
        NettingHall x = withLevels(0, 1);
        x.cancel(0);
        is("nothing there, and nothing known", x.wrong(0), 0);
        x.copy(0);
        x.order(0, 0, BUY, 5, 3, 0, DAY);
        x.copy(0);
        x.cancel(1);
        x.order(1, 0, BUY, 5, 3, 0, DAY);
        is("3 again, of another one", x.wrong(0), 0);
        is("read late: gone", x.read(0), 5);
        is("wrong then", x.wrong(0), 1);
        is("there again", x.read(0), 5);
        is("right", x.wrong(0), 0);
    }

    private static void readsWhatIsOld() {
        about("a message tells the quantity behind its own call");
        NettingHall x = new NettingHall();
        x.order(0, 0, BUY, 5, 3, 0, DAY);
        x.order(0, 0, BUY, 5, 4, 0, DAY);
        x.order(1, 0, SELL, 5, 2, 0, NOW);
        int[] due = {3, 7, 5};
        for (int i = 0; i < 3; i++) {
            is("read", x.read(0), 5);
            is("wrong until the last", x.wrong(0), due[i] == 5 ? 0 : 1);
        }
        x.order(1, 0, SELL, 5, 2, 0, NOW);
        is("3 now, as at first", x.shown(0, BUY, 5), 3);
        x.read(1);
        is("so the first message is right by now", x.wrong(1), 0);
        x.read(1);
        is("the second is not", x.wrong(1), 1);
    }

    /** How member 0 stands that sold so many ticks ahead of a cancel of what it told to buy then. */
    private static int behind(int ticks) {
        NettingHall x = new NettingHall();
        x.tick(7);
        x.order(0, 0, BUY, 5, 5, 0, DAY);
        trade(x, 1, 0, 0, 9, 1);
        x.deposit(1, 900);
        if (ticks > 0) {
            x.tick(ticks);
        }
        is("5 were left", x.cancel(0), 5);
        return x.member(0);
    }

    private static void watchedForTwoTicks() {
        about("each order that it cancels within 2 ticks of that in which it came");
        is("at once", behind(0), 10);
        is("1 tick later", behind(1), 10);
        is("2 ticks later", behind(2), 10);
        is("3 ticks later", behind(3), 0);
        is("50 ticks later", behind(50), 0);
    }

    private static void watchedOnTheOtherSide() {
        about("if it has traded on the other side of the instrument");
        for (int side = 0; side < 2; side++) {
            NettingHall x = new NettingHall();
            int price = side == BUY ? 5 : 15;
            x.order(0, 0, side, price, 5, 0, DAY);
            trade(x, side == BUY ? 0 : 1, side == BUY ? 1 : 0, 0, 10, 1);
            x.cancel(0);
            is("on the same side", x.member(0), 0);
            x.order(0, 0, side, price, 5, 0, DAY);
            trade(x, side == BUY ? 1 : 0, side == BUY ? 0 : 1, 1, 10, 1);
            x.cancel(orders(x) - 3);
            is("of another instrument", x.member(0), 0);
            x.order(0, 0, side, price, 5, 0, DAY);
            trade(x, side == BUY ? 1 : 2, side == BUY ? 2 : 1, 0, 10, 1);
            x.cancel(orders(x) - 3);
            is("others", x.member(0), 0);
            x.order(0, 0, side, price, 5, 0, DAY);
            trade(x, side == BUY ? 1 : 0, side == BUY ? 0 : 1, 0, 10, 1);
            x.cancel(orders(x) - 3);
            is("on the other side", x.member(0), 10);
            is("not the one it traded with", x.member(1), 0);
        }
        NettingHall y = new NettingHall();
        y.order(0, 0, BUY, 5, 5, 0, DAY);
        y.order(1, 0, SELL, 5, 2, 0, DAY);
        y.cancel(0);
        is("its own trades are on its own side", y.member(0), 0);
        NettingHall z = new NettingHall();
        z.order(0, 0, BUY, 5, 5, 0, DAY);
        z.cancel(0);
        is("without trades", z.member(0), 0);
    }

    /** How member 0 stands that sold in one tick, told to buy in another one, and cancelled that in a third one. */
    private static int inTicks(int sold, int told, int cancelled) {
        NettingHall x = new NettingHall();
        x.deposit(0, 900);
        x.deposit(1, 900);
        int order = 0;
        for (int time = 0; time <= 9; time++) {
            if (time == told) {
                order = x.order(0, 0, BUY, 5, 5, 0, DAY);
            }
            if (time == sold) {
                trade(x, 1, 0, 0, 9, 1);
            }
            if (time == cancelled) {
                x.cancel(order);
            }
            x.tick(1);
        }
        return x.member(0);
    }

    private static void watchedInTheseTicks() {
        about("in these ticks");
        is("a tick ahead of it", inTicks(2, 3, 3), 0);
        is("in the tick in which it came", inTicks(3, 3, 5), 10);
        is("in the next", inTicks(4, 3, 5), 10);
        is("in that of the cancel", inTicks(5, 3, 5), 10);
        is("3 ticks behind it", inTicks(4, 3, 6), 0);
        is("in that of the cancel, too late", inTicks(6, 3, 6), 0);
        NettingHall x = new NettingHall();
        trade(x, 1, 0, 0, 9, 1);
        x.cancel(x.order(0, 0, BUY, 5, 5, 0, DAY));
        is("in its tick, ahead of it", x.member(0), 10);
        NettingHall y = new NettingHall();
        y.cancel(y.order(0, 0, BUY, 5, 5, 0, DAY));
        trade(y, 1, 0, 0, 9, 1);
        is("behind the cancel", y.member(0), 0);
        NettingHall z = new NettingHall();
        trade(z, 1, 0, 0, 9, 1);
        z.breakTrade(0);
        z.cancel(z.order(0, 0, BUY, 5, 5, 0, DAY));
        is("a broken one was traded, too", z.member(0), 10);
    }

    /** A hall in which a stop of member 0, told in tick 0, wakes in one tick; the member sold in another one. */
    private static NettingHall withStop(int woken, int sold, int until) {
        NettingHall x = new NettingHall();
        x.deposit(0, 900);
        x.deposit(1, 900);
        x.deposit(2, 900);
        x.stop(0, 0, BUY, 5, 5, 20);
        for (int time = 0; time <= until; time++) {
            if (time == sold) {
                trade(x, 1, 0, 0, 9, 1);
            }
            if (time == woken) {
                trade(x, 1, 2, 0, 20, 1);
            }
            if (time < until) {
                x.tick(1);
            }
        }
        return x;
    }

    private static int stopCancelled(int woken, int sold, int cancelled) {
        NettingHall x = withStop(woken, sold, cancelled);
        is("it stands or waits", x.standing(0), woken <= cancelled ? 51 : 52);
        x.cancel(0);
        return x.member(0);
    }

    private static void watchedStops() {
        about("a stop: in which it was told");
        is("waits, 2 ticks", stopCancelled(99, 1, 2), 10);
        is("waits, 3 ticks", stopCancelled(99, 1, 3), 0);
        is("waits, without a trade", stopCancelled(99, 99, 2), 0);
        about("or, once it woke, in which it did");
        is("2 ticks behind that", stopCancelled(5, 6, 7), 10);
        is("3 ticks behind that", stopCancelled(5, 6, 8), 0);
        is("sold in the tick in which it woke", stopCancelled(5, 5, 7), 10);
        is("sold while it waited", stopCancelled(5, 4, 5), 0);
        is("sold in the tick in which it was told", stopCancelled(1, 0, 2), 0);
        is("woken in that tick", stopCancelled(0, 0, 2), 10);
    }

    private static void watchedCancelsAlone() {
        about("that it cancels: not what goes otherwise");
        NettingHall x = new NettingHall();
        trade(x, 1, 0, 0, 9, 1);
        x.order(0, 0, BUY, 5, 5, 0, DAY);
        x.order(0, 0, BUY, 6, 5, 0, DAY);
        x.tie(2, 3);
        x.order(1, 0, SELL, 6, 1, 0, DAY);
        is("by a tie", x.standing(2) * 100 + x.member(0), 0);
        x.order(0, 0, SELL, 6, 1, 0, DAY);
        is("taken away by its own order", x.standing(3) * 100 + x.member(0), 0);
        x.order(0, 0, BUY, 5, 5, 0, NOW);
        is("of the kind NOW", x.member(0), 0);
        NettingHall y = new NettingHall();
        trade(y, 1, 0, 0, 9, 1);
        y.halt(0);
        y.order(0, 0, BUY, 9, 5, 0, DAY);
        y.order(0, 0, SELL, 9, 5, 0, DAY);
        y.open(0);
        is("by an opening", y.standing(3) * 100 + y.member(0), 0);
        NettingHall z = new NettingHall();
        trade(z, 0, 1, 0, 900, 1);
        trade(z, 1, 0, 0, 1, 1);
        z.tick(2);
        z.order(0, 0, BUY, 1, 5, 0, DAY);
        z.order(1, 0, BUY, 1, 5, 0, DAY);
        trade(z, 2, 0, 0, 9, 1);
        z.tick(2);
        is("by a failing", z.standing(4) * 100 + z.member(0), 2);
        z.cancel(5);
        is("of a fine one", z.member(1), 0);
    }

    private static void watchedOnceForEach() {
        about("once more for each order; 10 more for each time that it was suspicious");
        NettingHall x = new NettingHall();
        trade(x, 1, 0, 0, 9, 1);
        for (int i = 1; i <= 20; i++) {
            x.cancel(x.order(0, 0, BUY, 5, 5, 0, DAY));
            is("times", x.member(0), 10 * i);
        }
        is("the others", x.member(1) + x.member(2) + x.member(3) + x.member(4), 0);
        x.order(0, 0, BUY, 5, 5, 0, DAY);
        x.order(0, 0, BUY, 5, 5, 0, DAY);
        x.tie(22, 23);
        x.cancel(22);
        is("one of two tied ones", x.member(0), 210);
        is("the other one stays", x.standing(23), 51);
        x.cancel(23);
        is("then that one", x.member(0), 220);
        notNow("a cancel that is not possible", () -> x.cancel(23));
        is("is none", x.member(0), 220);
        x.dividend(0, 1000);
        x.tick(1);
        is("called as well", x.member(0), 221);
        x.tick(3);
        is("failed, the house owes 1", x.member(0), 222);
        x.settle();
        is("settled", x.member(0), 223);
    }

    private static void watchedByAnyTrade() {
        about("by trades of spreads, of openings, and of others that came");
        NettingHall x = new NettingHall();
        x.order(1, 0, SELL, 9, 1, 0, DAY);
        x.order(1, 1, BUY, 8, 1, 0, DAY);
        x.order(0, 0, SELL, 50, 5, 0, DAY);
        x.order(0, 1, SELL, 50, 5, 0, DAY);
        x.order(0, 1, BUY, 5, 5, 0, DAY);
        is("a spread", x.spread(0, 0, 1, 1, 1), 1);
        x.cancel(2);
        is("bought the first", x.member(0), 10);
        x.cancel(3);
        is("did not buy the second", x.member(0), 10);
        x.cancel(4);
        is("sold the second", x.member(0), 20);
        NettingHall y = new NettingHall();
        y.halt(0);
        y.order(0, 0, BUY, 5, 5, 0, DAY);
        y.order(0, 0, SELL, 9, 5, 0, DAY);
        y.order(1, 0, BUY, 9, 5, 0, DAY);
        y.open(0);
        y.cancel(0);
        is("an opening", y.member(0), 10);
        NettingHall z = new NettingHall();
        z.order(0, 0, BUY, 5, 5, 0, DAY);
        z.order(0, 0, SELL, 9, 5, 0, DAY);
        z.order(1, 0, BUY, 9, 5, 0, DAY);
        z.cancel(0);
        is("by an order that stood", z.member(0), 10);
    }

    private static void replaysEachCall() {
        about("returns true if all orders, trades, positions and money are the same then");
        NettingHall x = new NettingHall();
        replaysAll(x);
        Done[] calls = {() -> x.deposit(0, 9000), () -> x.deposit(3, 9000), () -> x.fund(0, 7), () -> x.fund(HOUSE, 9),
            () -> x.order(0, 0, SELL, 90, 10, 3, DAY), () -> x.order(1, 0, BUY, 90, 10, 0, NOW),
            () -> x.order(3, 0, SELL, 95, 10, 3, REST), () -> x.order(0, 0, BUY, 95, 2, 0, ALL),
            () -> x.stop(0, 0, BUY, 40, 3, 96), () -> x.stop(0, 1, SELL, 50, 3, 55),
            () -> x.tie(4, 5), () -> x.order(3, 1, BUY, 60, 9, 2, DAY), () -> x.spread(0, 0, 1, 4, 40),
            () -> x.cancel(2), () -> x.band(0, 10), () -> x.halt(2), () -> x.order(3, 2, BUY, 30, 5, 2, DAY),
            () -> x.order(0, 2, SELL, 20, 3, 0, DAY), () -> x.indicated(2), () -> x.open(2), () -> x.split(0, 3),
            () -> x.dividend(0, 2), () -> x.breakTrade(1), () -> x.scenario(-50, 0, 5), () -> x.tick(1),
            () -> x.tick(3), () -> x.order(0, 0, BUY, 20, 5, 0, DAY), () -> x.sell(0, 3, 28), () -> x.read(0),
            () -> x.lose(0), () -> x.copy(1), () -> x.wrong(0), () -> trade(x, 2, 0, 1, 99, 9),
            () -> trade(x, 0, 3, 1, 9, 1), () -> x.tick(5), () -> x.settle(), () -> x.order(1, 0, BUY, 1, 1, 0, DAY)};
        for (int i = 0; i < calls.length; i++) {
            String got = nameOf(calls[i]);
            is("call " + i + " is possible", got, i == calls.length - 1 ? NOT_NOW : NOTHING);
            is("behind call " + i, x.replays() ? 1 : 0, 1);
        }
        is("two have failed", x.tick(1), 2);
    }

    private static void replaysAgainFromNothing() {
        about("from nothing, each time");
        NettingHall x = new NettingHall();
        x.order(0, 0, SELL, 100, 9, 4, DAY);
        x.order(0, 0, SELL, 200, 9, 0, DAY);
        x.order(1, 0, BUY, 100, 1, 0, DAY);
        x.order(1, 0, BUY, 100, 1, 0, DAY);
        x.order(0, 1, BUY, 5, 5, 0, DAY);
        x.cancel(x.order(0, 0, BUY, 3, 3, 0, DAY));
        x.tie(0, 1);
        x.stop(1, 0, SELL, 90, 5, 50);
        x.stop(2, 0, SELL, 90, 5, 50);
        x.tick(1);
        trade(x, 3, 4, 1, 50, 1);
        trade(x, 3, 4, 1, 90, 1);
        x.split(1, 2);
        x.dividend(1, 7);
        x.breakTrade(0);
        x.scenario(50, 50, 50);
        x.deposit(3, 5);
        x.fund(4, 5);
        is("one fails", x.tick(4), 1);
        x.band(0, 1);
        x.band(1, 1);
        x.halt(0);
        x.halt(1);
        x.halt(2);
        is("suspicious, and failed", x.member(0), 12);
        is("called", x.member(4), 1);
        for (int i = 0; i < 4; i++) {
            replaysAll(x);
        }
        NettingHall y = new NettingHall();
        y.order(0, 0, SELL, 100, 9, 4, DAY);
        y.order(0, 0, SELL, 200, 9, 0, DAY);
        y.order(1, 0, BUY, 100, 1, 0, DAY);
        y.tie(0, 1);
        for (int i = 0; i < 4; i++) {
            replaysAll(y);
        }
        is("both stand, tied behind the trade", y.standing(0) + y.standing(1), 81 + 91);
    }

    private static void replaysBehindThrows() {
        about("calls that changed something and did not throw");
        NettingHall x = withFailed();
        notNow("a deposit", () -> x.deposit(1, 5));
        outOfRange("an order", () -> x.order(0, 0, BUY, 1, 0, 0, DAY));
        noSuch("a tick", () -> x.member(7));
        is("refused", x.order(0, 0, BUY, 1, 1, 0, ALL), -1);
        notNow("a break", () -> x.breakTrade(0));
        replaysAll(x);
        x.order(0, 0, BUY, 1, 1, 0, DAY);
        x.settle();
        notNow("settled", () -> x.settle());
        replaysAll(x);
        NettingHall y = new NettingHall();
        for (int i = 0; i < 120; i++) {
            y.order(i % 5, i % 3, i % 2, 10 + i % 7, 1 + i, i % 2, DAY);
        }
        notNow("no more orders", () -> y.order(0, 0, BUY, 1, 1, 0, DAY));
        replaysAll(y);
    }

    private static void replaysChangeNothing() {
        about("replays: from nothing, and nothing is changed");
        NettingHall x = withFailed();
        x.order(2, 0, SELL, 70, 50, 7, DAY);
        x.stop(3, 0, BUY, 71, 5, 70);
        x.order(0, 0, BUY, 70, 9, 0, NOW);
        String before = stateOf(x);
        for (int i = 0; i < 5; i++) {
            replaysAll(x);
        }
        is("nothing", stateOf(x), before);
        NettingHall y = withFailed();
        y.order(2, 0, SELL, 70, 50, 7, DAY);
        y.stop(3, 0, BUY, 71, 5, 70);
        y.order(0, 0, BUY, 70, 9, 0, NOW);
        x.order(4, 0, BUY, 75, 20, 0, DAY);
        y.order(4, 0, BUY, 75, 20, 0, DAY);
        is("calls behind it answer as without it", stateOf(x), stateOf(y));
        replaysAll(x);
        replaysAll(y);
    }

    private static void fiveHundredAndTwelveCalls() {
        about("at most 512 calls");
        NettingHall x = new NettingHall();
        for (int i = 0; i < 511; i++) {
            if (i % 9 == 0) {
                x.tick(1);
            } else if (i % 4 == 0 && ordersAheadOf(i) < 120) {
                x.order(i % 5, i % 3, (i / 4) % 2, 20 + i % 11, 1 + i % 13, i % 2, DAY);
            } else {
                x.deposit(i % 5, 1 + i);
            }
        }
        is("the 512th", x.replays() ? 1 : 0, 1);
        NettingHall y = new NettingHall();
        for (int i = 1; i < 512; i++) {
            y.fund(HOUSE, 1);
        }
        is("each counts", y.fund(HOUSE, 1), 512);
    }

    /** No more orders than that have come in the run of 512 calls before one of them. */
    private static int ordersAheadOf(int call) {
        return call / 4;
    }
}
