/** What the tests have in common: an answer that is not the one that is due is printed and counted. */
abstract class Checks {
    static final int BUY = 0, SELL = 1;
    static final int HOUSE = NettingHall.NONE;
    static final int DAY = NettingHall.DAY, NOW = NettingHall.NOW, ALL = NettingHall.ALL, REST = NettingHall.REST;
    static final int[] FAR = {Integer.MIN_VALUE, Integer.MAX_VALUE};
    static final String NO_SUCH = "IndexOutOfBoundsException";
    static final String OUT_OF_RANGE = "IllegalArgumentException";
    static final String NOT_NOW = "IllegalStateException";
    static final String NOTHING = "nothing";

    private static int answers;
    private static int faults;
    private static String sentence = "";

    interface Done {
        void run();
    }

    /** Says which sentence of the document the next answers are about. */
    static void about(String words) {
        sentence = words;
    }

    static void is(String call, long got, long want) {
        answers++;
        if (got != want) {
            faults++;
            System.out.println(sentence + ": " + call + " is " + got + ", due is " + want);
        }
    }

    static void is(String call, String got, String want) {
        answers++;
        if (!got.equals(want)) {
            faults++;
            System.out.println(sentence + ": " + call + " is " + got + ", due is " + want);
        }
    }

    static String nameOf(Done done) {
        try {
            done.run();
            return NOTHING;
        } catch (RuntimeException e) {
            return e.getClass().getSimpleName();
        }
    }

    static void throwsIt(String call, String want, Done done) {
        answers++;
        String got = nameOf(done);
        if (!got.equals(want)) {
            faults++;
            System.out.println(sentence + ": " + call + " throws " + got + ", due is " + want);
        }
    }

    static void noSuch(String call, Done done) {
        throwsIt(call, NO_SUCH, done);
    }

    static void outOfRange(String call, Done done) {
        throwsIt(call, OUT_OF_RANGE, done);
    }

    static void notNow(String call, Done done) {
        throwsIt(call, NOT_NOW, done);
    }

    static void replaysAll(NettingHall x) {
        is("replays", x.replays() ? 1 : 0, 1);
    }

    /** Tells how it went, and ends with exit code 1 if an answer was wrong. */
    static void end(String what) {
        System.out.println(what + ": " + answers + " answers, " + faults + " of them wrong");
        if (faults > 0) {
            System.exit(1);
        }
    }

    /** Lets two members trade once, the first one buying, in an instrument without other orders at that price. */
    static void trade(NettingHall x, int buyer, int seller, int paper, int price, int quantity) {
        x.order(seller, paper, SELL, price, quantity, 0, DAY);
        x.order(buyer, paper, BUY, price, quantity, 0, DAY);
    }

    /** A hall in which member 1 has failed, with 20 of instrument 0 bought at 100 and worth 60 each at the house. */
    static NettingHall withFailed() {
        NettingHall x = new NettingHall();
        trade(x, 1, 0, 0, 100, 20);
        trade(x, 3, 2, 0, 60, 5);
        x.deposit(3, 1000);
        x.deposit(2, 1000);
        x.deposit(0, 1000);
        x.tick(4);
        return x;
    }

    /** All that can be asked of a hall without changing it, as one text. */
    static String stateOf(NettingHall x) {
        StringBuilder all = new StringBuilder();
        addOrders(all, x);
        for (int i = 0; i < 3; i++) {
            all.append("\ninstrument ").append(i).append(": ").append(x.instrument(i));
            all.append(' ').append(x.indicated(i));
            for (int side = 0; side < 2; side++) {
                all.append(' ').append(x.best(i, side));
            }
        }
        all.append("\ntrades: ").append(x.trades());
        for (int t = 0; t < x.trades(); t++) {
            for (int what = 0; what < 4; what++) {
                all.append(' ').append(x.trade(t, what));
            }
        }
        for (int m = HOUSE; m < 5; m++) {
            all.append("\nmember ").append(m).append(':');
            for (int i = 0; i < 3; i++) {
                all.append(' ').append(x.position(m, i)).append(' ').append(x.money(m, i));
            }
            if (m != HOUSE) {
                all.append(' ').append(x.margin(m)).append(' ').append(x.worth(m)).append(' ').append(x.member(m));
            }
        }
        all.append("\nwrong: ").append(x.wrong(0)).append(' ').append(x.wrong(1));
        return all.toString();
    }

    private static void addOrders(StringBuilder all, NettingHall x) {
        all.append("orders:");
        for (int i = 0; i < 120; i++) {
            int order = i;
            int[] standing = new int[1];
            if (!nameOf(() -> standing[0] = x.standing(order)).equals(NOTHING)) {
                break;
            }
            all.append(' ').append(standing[0]);
        }
    }
}
