/** An exchange with the clearing, the fund, the feeds and the replay behind it. */
public final class NettingHall {
    public static final int NONE = -1;
    public static final int DAY = 0, NOW = 1, ALL = 2, REST = 3;
    public static final int CONTINUOUS = 0, AUCTION = 1;

    private static final int HOUSE = -1;
    private static final int BUYS = 0, SELLS = 1;
    private static final int MEMBERS = 5, PAPERS = 3, READERS = 2;
    private static final int MOST_ORDERS = 120, MOST_TRADES = 200, MOST_SCENARIOS = 4, MOST_SPLITS = 3;
    private static final int MOST_CALLS = 512;
    private static final int MOST_PRICE = 9999, MOST_QUANTITY = 1000, MOST_AMOUNT = 1000000;
    /** More turns than a book of so many orders and trades can take: each turn trades or takes an order away. */
    private static final int MOST_TURNS = 1000;

    private final Hall hall;
    private final Feed feed;
    /** The replay's own hall; it is made when it is first asked for, and used again then. */
    private Hall again;
    private Call firstCall;
    private Call latestCall;
    private int calls;

    public NettingHall() {
        hall = new Hall();
        feed = new Feed();
    }

    // ---- money

    public long deposit(int member, int amount)
            throws IndexOutOfBoundsException, IllegalArgumentException, IllegalStateException {
        mustExist(isMember(member));
        mustFit(isBetween(amount, 1, MOST_AMOUNT));
        mustBePossible(!hall.clearing.hasFailed(member));
        Call call = new Call(Call.DEPOSIT, member, amount, 0);
        return done(call, hall.perform(call));
    }

    public long fund(int member, int amount)
            throws IndexOutOfBoundsException, IllegalArgumentException, IllegalStateException {
        mustExist(isMemberOrHouse(member));
        mustFit(isBetween(amount, 1, MOST_AMOUNT));
        mustBePossible(!hall.clearing.hasFailed(member));
        Call call = new Call(Call.FUND, member, amount, 0);
        return done(call, hall.perform(call));
    }

    // ---- orders

    public int order(int member, int instrument, int side, int price, int quantity, int shown, int kind)
            throws IndexOutOfBoundsException, IllegalArgumentException, IllegalStateException {
        mustExist(isMember(member) && isInstrument(instrument));
        mustFit(isOrder(side, price, quantity) && isBetween(shown, 0, quantity) && isBetween(kind, DAY, REST));
        mustBePossible(!hall.clearing.hasFailed(member) && hall.books.hasRoom());
        mustBePossible(kind == DAY || kind == REST || hall.clearing.isContinuous(instrument));
        Call call = new Call(Call.ORDER, member, instrument, side).with(price, quantity, shown, kind);
        return (int) done(call, hall.perform(call));
    }

    public int stop(int member, int instrument, int side, int price, int quantity, int wake)
            throws IndexOutOfBoundsException, IllegalArgumentException, IllegalStateException {
        mustExist(isMember(member) && isInstrument(instrument));
        mustFit(isOrder(side, price, quantity) && isPrice(wake));
        mustBePossible(!hall.clearing.hasFailed(member) && hall.books.hasRoom());
        Call call = new Call(Call.STOP, member, instrument, side).with(price, quantity, wake, 0);
        return (int) done(call, hall.perform(call));
    }

    public void tie(int order, int other)
            throws IndexOutOfBoundsException, IllegalArgumentException, IllegalStateException {
        Order one = hall.books.orderAt(order);
        Order two = hall.books.orderAt(other);
        if (one == null || two == null) {
            throw new IndexOutOfBoundsException("no such order");
        }
        mustFit(order != other && one.member == two.member);
        mustBePossible(one.canBeTied() && two.canBeTied());
        Call call = new Call(Call.TIE, order, other, 0);
        done(call, hall.perform(call));
    }

    public int cancel(int order) throws IndexOutOfBoundsException, IllegalStateException {
        Order gone = hall.books.orderAt(order);
        if (gone == null) {
            throw new IndexOutOfBoundsException("no such order");
        }
        mustBePossible(!gone.isGone());
        Call call = new Call(Call.CANCEL, order, 0, 0);
        return (int) done(call, hall.perform(call));
    }

    public int spread(int member, int first, int second, int quantity, int price)
            throws IndexOutOfBoundsException, IllegalArgumentException, IllegalStateException {
        mustExist(isMember(member) && isInstrument(first) && isInstrument(second));
        mustFit(first != second && isBetween(quantity, 1, MOST_QUANTITY));
        mustFit(isBetween(price, 1 - MOST_PRICE, MOST_PRICE - 1));
        mustBePossible(!hall.clearing.hasFailed(member));
        mustBePossible(hall.clearing.isContinuous(first) && hall.clearing.isContinuous(second));
        Call call = new Call(Call.SPREAD, member, first, second).with(quantity, price, 0, 0);
        return (int) done(call, hall.perform(call));
    }

    public int standing(int order) throws IndexOutOfBoundsException {
        Order asked = hall.books.orderAt(order);
        if (asked == null) {
            throw new IndexOutOfBoundsException("no such order");
        }
        return asked.isGone() ? 0 : 10 * asked.left + asked.state;
    }

    public int best(int instrument, int side) throws IndexOutOfBoundsException, IllegalArgumentException {
        mustExist(isInstrument(instrument));
        mustFit(isSide(side));
        Order first = hall.books.firstOf(instrument, side);
        return first == null ? NONE : first.price;
    }

    public int shown(int instrument, int side, int price) throws IndexOutOfBoundsException, IllegalArgumentException {
        mustExist(isInstrument(instrument));
        mustFit(isSide(side) && isPrice(price));
        return hall.books.shownAt(instrument, side, price);
    }

    // ---- instruments

    public int band(int instrument, int percent) throws IndexOutOfBoundsException, IllegalArgumentException {
        mustExist(isInstrument(instrument));
        mustFit(isBetween(percent, 0, 50));
        Call call = new Call(Call.BAND, instrument, percent, 0);
        return (int) done(call, hall.perform(call));
    }

    public void halt(int instrument) throws IndexOutOfBoundsException, IllegalStateException {
        mustExist(isInstrument(instrument));
        mustBePossible(hall.clearing.isContinuous(instrument));
        Call call = new Call(Call.HALT, instrument, 0, 0);
        done(call, hall.perform(call));
    }

    public long indicated(int instrument) throws IndexOutOfBoundsException {
        Paper paper = hall.clearing.paperAt(instrument);
        if (paper == null) {
            throw new IndexOutOfBoundsException("no such instrument");
        }
        int price = hall.books.openingPrice(instrument, paper.reference);
        int most = hall.books.mostAt(instrument, price);
        return most == 0 ? 0 : 1000000L * price + most;
    }

    public int open(int instrument) throws IndexOutOfBoundsException, IllegalStateException {
        mustExist(isInstrument(instrument));
        mustBePossible(!hall.clearing.isContinuous(instrument));
        Call call = new Call(Call.OPEN, instrument, 0, 0);
        return (int) done(call, hall.perform(call));
    }

    public int split(int instrument, int by)
            throws IndexOutOfBoundsException, IllegalArgumentException, IllegalStateException {
        Paper paper = hall.clearing.paperAt(instrument);
        if (paper == null) {
            throw new IndexOutOfBoundsException("no such instrument");
        }
        mustFit(isBetween(by, 2, 5));
        mustBePossible(paper.splits < MOST_SPLITS);
        Call call = new Call(Call.SPLIT, instrument, by, 0);
        return (int) done(call, hall.perform(call));
    }

    public long dividend(int instrument, int amount) throws IndexOutOfBoundsException, IllegalArgumentException {
        mustExist(isInstrument(instrument));
        mustFit(isBetween(amount, 1, 1000));
        Call call = new Call(Call.DIVIDEND, instrument, amount, 0);
        return done(call, hall.perform(call));
    }

    public int instrument(int instrument) throws IndexOutOfBoundsException {
        Paper paper = hall.clearing.paperAt(instrument);
        if (paper == null) {
            throw new IndexOutOfBoundsException("no such instrument");
        }
        return 10 * paper.last + paper.phase;
    }

    // ---- clearing

    public int trades() {
        return hall.clearing.tradeCount;
    }

    public int trade(int trade, int what) throws IndexOutOfBoundsException, IllegalArgumentException {
        Trade asked = hall.clearing.tradeAt(trade);
        if (asked == null) {
            throw new IndexOutOfBoundsException("no such trade");
        }
        mustFit(isBetween(what, 0, 3));
        return asked.tells(what);
    }

    public void breakTrade(int trade) throws IndexOutOfBoundsException, IllegalStateException {
        Trade asked = hall.clearing.tradeAt(trade);
        if (asked == null) {
            throw new IndexOutOfBoundsException("no such trade");
        }
        mustBePossible(hall.clearing.canBeBroken(asked));
        Call call = new Call(Call.BREAK, trade, 0, 0);
        done(call, hall.perform(call));
    }

    public long position(int member, int instrument) throws IndexOutOfBoundsException {
        Member holder = hall.clearing.holderAt(member);
        if (holder == null || !isInstrument(instrument)) {
            throw new IndexOutOfBoundsException("no such member or instrument");
        }
        return holder.positionIn(instrument);
    }

    public long money(int member, int what) throws IndexOutOfBoundsException, IllegalArgumentException {
        Member holder = hall.clearing.holderAt(member);
        if (holder == null) {
            throw new IndexOutOfBoundsException("no such member");
        }
        mustFit(isBetween(what, 0, 2));
        return holder.amountOf(what);
    }

    // ---- margins and time

    public int scenario(int first, int second, int third) throws IllegalArgumentException, IllegalStateException {
        mustFit(isPercent(first) && isPercent(second) && isPercent(third));
        mustBePossible(hall.clearing.scenarioCount < MOST_SCENARIOS);
        Call call = new Call(Call.SCENARIO, first, second, third);
        return (int) done(call, hall.perform(call));
    }

    public long margin(int member) throws IndexOutOfBoundsException {
        Member asked = hall.clearing.memberAt(member);
        if (asked == null) {
            throw new IndexOutOfBoundsException("no such member");
        }
        return hall.clearing.marginOf(asked);
    }

    public long worth(int member) throws IndexOutOfBoundsException {
        Member asked = hall.clearing.memberAt(member);
        if (asked == null) {
            throw new IndexOutOfBoundsException("no such member");
        }
        return hall.clearing.worthOf(asked);
    }

    public int member(int member) throws IndexOutOfBoundsException {
        Member asked = hall.clearing.memberAt(member);
        if (asked == null) {
            throw new IndexOutOfBoundsException("no such member");
        }
        return 10 * asked.suspicions + asked.condition();
    }

    public int tick(int ticks) throws IllegalArgumentException {
        mustFit(isBetween(ticks, 1, 50));
        Call call = new Call(Call.TICK, ticks, 0, 0);
        return (int) done(call, hall.perform(call));
    }

    public long sell(int instrument, int member, int price)
            throws IndexOutOfBoundsException, IllegalArgumentException, IllegalStateException {
        mustExist(isInstrument(instrument) && isMember(member));
        mustFit(isPrice(price));
        mustBePossible(hall.clearing.house.positionIn(instrument) != 0 && !hall.clearing.hasFailed(member));
        Call call = new Call(Call.SELL, instrument, member, price);
        return done(call, hall.perform(call));
    }

    public long settle() throws IllegalStateException {
        mustBePossible(hall.clearing.toSettle != null);
        Call call = new Call(Call.SETTLE, 0, 0, 0);
        return done(call, hall.perform(call));
    }

    // ---- feeds and replay

    public int read(int reader) throws IndexOutOfBoundsException {
        Reader asked = feed.readerAt(reader);
        if (asked == null) {
            throw new IndexOutOfBoundsException("no such reader");
        }
        return feed.readNext(asked);
    }

    public int lose(int reader) throws IndexOutOfBoundsException, IllegalStateException {
        Reader asked = feed.readerAt(reader);
        if (asked == null) {
            throw new IndexOutOfBoundsException("no such reader");
        }
        mustBePossible(asked.next < feed.count);
        return feed.loseNext(asked);
    }

    public int copy(int reader) throws IndexOutOfBoundsException {
        Reader asked = feed.readerAt(reader);
        if (asked == null) {
            throw new IndexOutOfBoundsException("no such reader");
        }
        return feed.copyAll(asked);
    }

    public int wrong(int reader) throws IndexOutOfBoundsException {
        Reader asked = feed.readerAt(reader);
        if (asked == null) {
            throw new IndexOutOfBoundsException("no such reader");
        }
        return asked.copied.differencesFrom(feed.told);
    }

    public boolean replays() {
        if (again == null) {
            again = new Hall();
        }
        again.clear();
        Call call = firstCall;
        for (int i = 0; i < calls && call != null; i++) {
            again.perform(call);
            call = call.next;
        }
        return again.isSameAs(hall);
    }

    // ---- helpers of the face

    /** Behind a call that was done: keeps it for the replay, tells the feed what is shown, and gives its answer on. */
    private long done(Call call, long answer) {
        boolean refused = call.what == Call.ORDER && answer == NONE;
        if (!refused) {
            keep(call);
            feed.tell(hall.books);
        }
        return answer;
    }

    private void keep(Call call) {
        if (calls == MOST_CALLS) {
            return;
        }
        if (latestCall == null) {
            firstCall = call;
        } else {
            latestCall.next = call;
        }
        latestCall = call;
        calls++;
    }

    private static void mustExist(boolean exists) {
        if (!exists) {
            throw new IndexOutOfBoundsException("no such member, instrument or order");
        }
    }

    private static void mustFit(boolean fits) {
        if (!fits) {
            throw new IllegalArgumentException("an argument is out of range");
        }
    }

    private static void mustBePossible(boolean possible) {
        if (!possible) {
            throw new IllegalStateException("this is not possible now");
        }
    }

    private static boolean isBetween(int value, int least, int most) {
        return value >= least && value <= most;
    }

    private static boolean isMember(int member) {
        return isBetween(member, 0, MEMBERS - 1);
    }

    private static boolean isMemberOrHouse(int member) {
        return member == HOUSE || isMember(member);
    }

    private static boolean isInstrument(int instrument) {
        return isBetween(instrument, 0, PAPERS - 1);
    }

    private static boolean isSide(int side) {
        return side == BUYS || side == SELLS;
    }

    private static boolean isPrice(int price) {
        return isBetween(price, 1, MOST_PRICE);
    }

    private static boolean isPercent(int percent) {
        return isBetween(percent, -50, 50);
    }

    private static boolean isOrder(int side, int price, int quantity) {
        return isSide(side) && isPrice(price) && isBetween(quantity, 1, MOST_QUANTITY);
    }

    /** A call that changes something, with its arguments in the order in which the face has them. */
    private static final class Call {
        static final int DEPOSIT = 0, FUND = 1, ORDER = 2, STOP = 3, TIE = 4, CANCEL = 5, SPREAD = 6;
        static final int BAND = 7, HALT = 8, OPEN = 9, SPLIT = 10, DIVIDEND = 11, BREAK = 12;
        static final int SCENARIO = 13, TICK = 14, SELL = 15, SETTLE = 16;

        final int what;
        final int a;
        final int b;
        final int c;
        int d;
        int e;
        int f;
        int g;
        Call next;

        Call(int what, int a, int b, int c) {
            this.what = what;
            this.a = a;
            this.b = b;
            this.c = c;
        }

        Call with(int fourth, int fifth, int sixth, int seventh) {
            d = fourth;
            e = fifth;
            f = sixth;
            g = seventh;
            return this;
        }
    }

    /** An order that comes, stands, waits as a stop, or is gone. */
    private static final class Order {
        /** STANDS and WAITS are what the face tells of an order. */
        static final int GONE = 0, STANDS = 1, WAITS = 2, COMES = 3;

        final int number;
        int member;
        int instrument;
        int side;
        int price;
        int size;
        int left;
        int part;
        int wake;
        int state;
        int cameAt;
        /** Counts up by whatever comes to stand, or shows anew behind a used part: lower is earlier. */
        int stamp;
        Order tied;

        Order(int number) {
            this.number = number;
        }

        boolean isGone() {
            return state == GONE;
        }

        boolean stands() {
            return state == STANDS;
        }

        boolean standsIn(int paper, int ofSide) {
            return state == STANDS && instrument == paper && side == ofSide;
        }

        boolean canBeTied() {
            return state != GONE && tied == null;
        }

        boolean isAheadOf(Order other) {
            if (price == other.price) {
                return stamp < other.stamp;
            }
            return side == BUYS ? price > other.price : price < other.price;
        }

        /** Whether it trades at this price, or at a better one for the other side. */
        boolean isGoodFor(int asked) {
            return side == BUYS ? price >= asked : price <= asked;
        }

        boolean wakesAt(int last) {
            return side == BUYS ? last >= wake : last <= wake;
        }

        void showAnew() {
            part = size == 0 || size > left ? left : size;
        }

        void goAway() {
            state = GONE;
            left = 0;
            part = 0;
            if (tied != null) {
                tied.tied = null;
                tied = null;
            }
        }

        void divideBy(int by) {
            price = Paper.partOf(price, by);
            wake = Paper.partOf(wake, by);
            size *= by;
            left *= by;
            part *= by;
        }

        boolean isSameAs(Order other) {
            return member == other.member && instrument == other.instrument && side == other.side
                    && price == other.price && size == other.size && left == other.left && part == other.part
                    && wake == other.wake && state == other.state && cameAt == other.cameAt
                    && stamp == other.stamp && tiedNumber() == other.tiedNumber();
        }

        private int tiedNumber() {
            return tied == null ? NONE : tied.number;
        }
    }

    /** All orders, by their numbers; the books are what stands among them. */
    private static final class Books {
        final Order[] orders = new Order[MOST_ORDERS];
        int count;
        int stamps;

        Books() {
            for (int i = 0; i < orders.length; i++) {
                orders[i] = new Order(i);
            }
        }

        void clear() {
            count = 0;
            stamps = 0;
        }

        boolean hasRoom() {
            return count < orders.length;
        }

        Order orderAt(int number) {
            return number < 0 || number >= count || number >= orders.length ? null : orders[number];
        }

        Order add(int member, int instrument, int side, int price, int quantity) {
            if (count < 0 || count >= orders.length) {
                return null;
            }
            Order order = orders[count];
            count++;
            order.member = member;
            order.instrument = instrument;
            order.side = side;
            order.price = price;
            order.size = 0;
            order.left = quantity;
            order.part = 0;
            order.wake = 0;
            order.state = Order.COMES;
            order.cameAt = 0;
            order.stamp = 0;
            order.tied = null;
            return order;
        }

        void letStand(Order order) {
            order.state = Order.STANDS;
            order.showAnew();
            order.stamp = stamps;
            stamps++;
        }

        /** The first order of a book, or null. */
        Order firstOf(int instrument, int side) {
            Order first = null;
            for (int i = 0; i < count && i < orders.length; i++) {
                Order order = orders[i];
                if (order.standsIn(instrument, side) && (first == null || order.isAheadOf(first))) {
                    first = order;
                }
            }
            return first;
        }

        int shownAt(int instrument, int side, int price) {
            int sum = 0;
            for (int i = 0; i < count && i < orders.length; i++) {
                Order order = orders[i];
                if (order.standsIn(instrument, side) && order.price == price) {
                    sum += order.part;
                }
            }
            return sum;
        }

        /** What stands of a side at a price or at better ones for the other side, hidden parts as well. */
        int sumGoodFor(int instrument, int side, int price, int butOfMember) {
            int sum = 0;
            for (int i = 0; i < count && i < orders.length; i++) {
                Order order = orders[i];
                if (order.standsIn(instrument, side) && order.isGoodFor(price) && order.member != butOfMember) {
                    sum += order.left;
                }
            }
            return sum;
        }

        int mostAt(int instrument, int price) {
            return Math.min(sumGoodFor(instrument, BUYS, price, NONE), sumGoodFor(instrument, SELLS, price, NONE));
        }

        /** The price at which an instrument is opened; 0 if no order of it stands. */
        int openingPrice(int instrument, int reference) {
            int best = 0;
            for (int i = 0; i < count && i < orders.length; i++) {
                Order order = orders[i];
                if (order.stands() && order.instrument == instrument
                        && (best == 0 || opensBetter(instrument, order.price, best, reference))) {
                    best = order.price;
                }
            }
            return best;
        }

        private boolean opensBetter(int instrument, int price, int other, int reference) {
            int bought = sumGoodFor(instrument, BUYS, price, NONE);
            int sold = sumGoodFor(instrument, SELLS, price, NONE);
            int otherBought = sumGoodFor(instrument, BUYS, other, NONE);
            int otherSold = sumGoodFor(instrument, SELLS, other, NONE);
            int more = Math.min(bought, sold) - Math.min(otherBought, otherSold);
            if (more != 0) {
                return more > 0;
            }
            int wider = Math.abs(bought - sold) - Math.abs(otherBought - otherSold);
            if (wider != 0) {
                return wider < 0;
            }
            int farther = Math.abs(price - reference) - Math.abs(other - reference);
            return farther == 0 ? price < other : farther < 0;
        }

        /** Takes a quantity off what a standing order shows; one that has more shows anew, behind the others. */
        void useShown(Order order, int quantity) {
            order.left -= quantity;
            order.part -= quantity;
            if (order.left == 0) {
                order.goAway();
            } else if (order.part == 0) {
                letStand(order);
            }
        }

        /** Takes a quantity off an order in an opening, where it keeps its place. */
        void useAll(Order order, int quantity) {
            order.left -= quantity;
            if (order.left == 0) {
                order.goAway();
            } else {
                order.showAnew();
            }
        }

        void takeAwayOf(int member) {
            for (int i = 0; i < count && i < orders.length; i++) {
                if (orders[i].member == member) {
                    orders[i].goAway();
                }
            }
        }

        void divide(int instrument, int by) {
            for (int i = 0; i < count && i < orders.length; i++) {
                if (orders[i].instrument == instrument) {
                    orders[i].divideBy(by);
                }
            }
        }

        /** The stop that wakes now and has the lowest number, or null. */
        Order firstToWake(Clearing clearing) {
            for (int i = 0; i < count && i < orders.length; i++) {
                Order order = orders[i];
                Paper paper = clearing.paperAt(order.instrument);
                if (order.state == Order.WAITS && paper != null && paper.wakesStops() && order.wakesAt(paper.last)) {
                    return order;
                }
            }
            return null;
        }

        boolean isSameAs(Books other) {
            boolean same = count == other.count && stamps == other.stamps;
            for (int i = 0; same && i < count && i < orders.length && i < other.orders.length; i++) {
                same = orders[i].isSameAs(other.orders[i]);
            }
            return same;
        }
    }

    /** An instrument, without its orders. */
    private static final class Paper {
        final int number;
        int phase;
        int last;
        int reference;
        int band;
        int splits;
        /** What one of it at the start has become by splits. */
        int factor;
        /** Whether it traded in the call that is done now. */
        boolean traded;
        /** What the house paid for all that came to it since its last sale. */
        long cost;

        Paper(int number) {
            this.number = number;
            factor = 1;
        }

        void clear() {
            phase = CONTINUOUS;
            last = 0;
            reference = 0;
            band = 0;
            splits = 0;
            factor = 1;
            traded = false;
            cost = 0;
        }

        boolean wakesStops() {
            return traded && phase == CONTINUOUS;
        }

        boolean isTooFar(int price) {
            return band > 0 && reference > 0 && Math.abs(price - reference) > reference * band / 100;
        }

        void tradedAt(int price) {
            traded = true;
            last = price;
            if (reference == 0) {
                reference = price;
            }
        }

        int changeBand(int percent) {
            int before = band;
            band = percent;
            return before;
        }

        void divideBy(int by) {
            splits++;
            factor *= by;
            last = last == 0 ? 0 : partOf(last, by);
            reference = reference == 0 ? 0 : partOf(reference, by);
        }

        static int partOf(int price, int by) {
            return by <= 0 ? price : Math.max(1, price / by);
        }

        boolean isSameAs(Paper other) {
            return phase == other.phase && last == other.last && reference == other.reference && band == other.band
                    && splits == other.splits && factor == other.factor && cost == other.cost;
        }
    }

    /** A member, or the house: its share is the capital then, and its deposit what was uncovered. */
    private static final class Member {
        final int number;
        private final long[] positions = new long[PAPERS];
        long cash;
        long deposit;
        long share;
        long traded;
        int suspicions;
        boolean called;
        int calledAt;
        boolean failed;
        boolean settled;

        Member(int number) {
            this.number = number;
        }

        void clear() {
            for (int i = 0; i < positions.length; i++) {
                positions[i] = 0;
            }
            cash = 0;
            deposit = 0;
            share = 0;
            traded = 0;
            suspicions = 0;
            called = false;
            calledAt = 0;
            failed = false;
            settled = false;
        }

        long positionIn(int instrument) {
            return instrument < 0 || instrument >= positions.length ? 0 : positions[instrument];
        }

        /** Takes a quantity of an instrument into its position, and an amount into its cash; either may be below 0. */
        void take(int instrument, long quantity, long amount) {
            if (instrument >= 0 && instrument < positions.length) {
                positions[instrument] += quantity;
                cash += amount;
            }
        }

        boolean holdsNothing() {
            for (long position : positions) {
                if (position != 0) {
                    return false;
                }
            }
            return true;
        }

        int condition() {
            if (failed) {
                return settled ? 3 : 2;
            }
            return called ? 1 : 0;
        }

        long amountOf(int what) {
            if (what == 0) {
                return cash;
            }
            return what == 1 ? deposit : share;
        }

        /** Its fee in ten-thousandths, by what it has traded so far. */
        int rate() {
            if (traded >= 5000) {
                return 5;
            }
            return traded >= 1000 ? 8 : 10;
        }

        boolean isSameAs(Member other) {
            boolean same = cash == other.cash && deposit == other.deposit && share == other.share
                    && traded == other.traded && suspicions == other.suspicions && called == other.called
                    && calledAt == other.calledAt && failed == other.failed && settled == other.settled;
            for (int i = 0; i < PAPERS; i++) {
                same = same && positionIn(i) == other.positionIn(i);
            }
            return same;
        }
    }

    /** A trade, as it was made. */
    private static final class Trade {
        int instrument;
        int price;
        int quantity;
        int buyer;
        int seller;
        int time;
        int factor;
        long buyerFee;
        long sellerFee;
        boolean broken;

        int tells(int what) {
            switch (what) {
                case 0:
                    return price;
                case 1:
                    return quantity;
                case 2:
                    return 10 * buyer + seller;
                default:
                    return broken ? 1 : 0;
            }
        }

        boolean isSameAs(Trade other) {
            return instrument == other.instrument && price == other.price && quantity == other.quantity
                    && buyer == other.buyer && seller == other.seller && time == other.time && factor == other.factor
                    && buyerFee == other.buyerFee && sellerFee == other.sellerFee && broken == other.broken;
        }
    }

    /** Members, the house, instruments, trades, scenarios and the time. */
    private static final class Clearing {
        private static final int CALL_TICKS = 3, BREAK_TICKS = 20;

        final Member[] members = new Member[MEMBERS];
        final Member house = new Member(HOUSE);
        final Paper[] papers = new Paper[PAPERS];
        final Trade[] trades = new Trade[MOST_TRADES];
        final int[][] scenarios = new int[MOST_SCENARIOS][PAPERS];
        int tradeCount;
        int scenarioCount;
        int time;
        int failures;
        /** The failed member that is to be settled, or null, and what was lost by sales since it failed. */
        Member toSettle;
        long losses;

        Clearing() {
            for (int i = 0; i < members.length; i++) {
                members[i] = new Member(i);
            }
            for (int i = 0; i < papers.length; i++) {
                papers[i] = new Paper(i);
            }
            for (int i = 0; i < trades.length; i++) {
                trades[i] = new Trade();
            }
        }

        void clear() {
            for (Member member : members) {
                member.clear();
            }
            house.clear();
            for (Paper paper : papers) {
                paper.clear();
            }
            tradeCount = 0;
            scenarioCount = 0;
            time = 0;
            failures = 0;
            toSettle = null;
            losses = 0;
        }

        Member memberAt(int number) {
            return number < 0 || number >= members.length ? null : members[number];
        }

        Member holderAt(int number) {
            return number == HOUSE ? house : memberAt(number);
        }

        Paper paperAt(int number) {
            return number < 0 || number >= papers.length ? null : papers[number];
        }

        Trade tradeAt(int number) {
            return number < 0 || number >= tradeCount || number >= trades.length ? null : trades[number];
        }

        boolean hasFailed(int number) {
            Member member = memberAt(number);
            return member != null && member.failed;
        }

        boolean isContinuous(int instrument) {
            Paper paper = paperAt(instrument);
            return paper != null && paper.phase == CONTINUOUS;
        }

        boolean hasRoomFor(int more) {
            return tradeCount + more <= trades.length;
        }

        long payDeposit(int number, int amount) {
            Member member = memberAt(number);
            if (member == null) {
                return 0;
            }
            member.deposit += amount;
            return member.deposit;
        }

        long payShare(int number, int amount) {
            Member holder = holderAt(number);
            if (holder == null) {
                return 0;
            }
            holder.share += amount;
            return holder.share;
        }

        int addScenario(int first, int second, int third) {
            if (scenarioCount < 0 || scenarioCount >= MOST_SCENARIOS) {
                return scenarioCount;
            }
            int[] moves = scenarios[scenarioCount];
            moves[0] = first;
            moves[1] = second;
            moves[2] = third;
            scenarioCount++;
            return scenarioCount;
        }

        /** Makes a trade of two orders; the one that came pays the fee. */
        void makeTrade(Paper paper, int price, int quantity, int buyer, int seller, boolean buyerCame) {
            Member buys = memberAt(buyer);
            Member sells = memberAt(seller);
            if (buys == null || sells == null || tradeCount < 0 || tradeCount >= trades.length) {
                return;
            }
            Trade trade = trades[tradeCount];
            tradeCount++;
            trade.instrument = paper.number;
            trade.price = price;
            trade.quantity = quantity;
            trade.buyer = buyer;
            trade.seller = seller;
            trade.time = time;
            trade.factor = paper.factor;
            trade.broken = false;
            long value = (long) price * quantity;
            long fee = value * (buyerCame ? buys : sells).rate() / 10000;
            long pay = value * 2 / 10000;
            trade.buyerFee = buyerCame ? fee : -pay;
            trade.sellerFee = buyerCame ? -pay : fee;
            buys.take(paper.number, quantity, -value - trade.buyerFee);
            sells.take(paper.number, -quantity, value - trade.sellerFee);
            house.cash += trade.buyerFee + trade.sellerFee;
            buys.traded += quantity;
            sells.traded += quantity;
            paper.tradedAt(price);
        }

        boolean canBeBroken(Trade trade) {
            return !trade.broken && time - trade.time <= BREAK_TICKS
                    && !hasFailed(trade.buyer) && !hasFailed(trade.seller);
        }

        void undoTrade(int number) {
            Trade trade = tradeAt(number);
            if (trade == null || trade.factor <= 0) {
                return;
            }
            Paper paper = paperAt(trade.instrument);
            Member buys = memberAt(trade.buyer);
            Member sells = memberAt(trade.seller);
            if (paper == null || buys == null || sells == null) {
                return;
            }
            long quantity = (long) trade.quantity * (paper.factor / trade.factor);
            long value = (long) trade.price * trade.quantity;
            buys.take(paper.number, -quantity, value + trade.buyerFee);
            sells.take(paper.number, quantity, -value + trade.sellerFee);
            house.cash -= trade.buyerFee + trade.sellerFee;
            trade.broken = true;
        }

        boolean hasTraded(int member, int instrument, int side, int since) {
            for (int i = 0; i < tradeCount && i < trades.length; i++) {
                Trade trade = trades[i];
                int who = side == BUYS ? trade.buyer : trade.seller;
                if (trade.instrument == instrument && trade.time >= since && who == member) {
                    return true;
                }
            }
            return false;
        }

        void divide(Paper paper, int by) {
            paper.divideBy(by);
            for (Member member : members) {
                member.take(paper.number, member.positionIn(paper.number) * (by - 1), 0);
            }
            house.take(paper.number, house.positionIn(paper.number) * (by - 1), 0);
        }

        long payDividend(int instrument, int amount) {
            long paid = payDividendTo(house, instrument, amount);
            for (Member member : members) {
                paid += payDividendTo(member, instrument, amount);
            }
            return paid;
        }

        private long payDividendTo(Member holder, int instrument, int amount) {
            long due = holder.positionIn(instrument) * amount;
            holder.cash += due;
            return Math.max(0, due);
        }

        long worthOf(Member member) {
            long worth = member.cash + member.deposit;
            for (Paper paper : papers) {
                worth += member.positionIn(paper.number) * paper.last;
            }
            return worth;
        }

        long marginOf(Member member) {
            long margin = 0;
            for (int i = 0; i < scenarioCount && i < MOST_SCENARIOS; i++) {
                margin = Math.max(margin, lossBy(member, scenarios[i]));
            }
            return margin;
        }

        private long lossBy(Member member, int[] moves) {
            long gain = 0;
            for (int i = 0; i < papers.length && i < moves.length; i++) {
                gain += member.positionIn(i) * papers[i].last * moves[i] / 100;
            }
            return -gain;
        }

        void reviewCalls() {
            for (Member member : members) {
                boolean isShort = worthOf(member) < marginOf(member);
                if (!member.failed && isShort && !member.called) {
                    member.calledAt = time;
                }
                member.called = !member.failed && isShort;
            }
        }

        /** The member that fails at the end of this tick, or null. */
        Member nextToFail() {
            if (toSettle != null) {
                return null;
            }
            for (Member member : members) {
                if (member.called && time - member.calledAt >= CALL_TICKS) {
                    return member;
                }
            }
            return null;
        }

        /** Lets a member fail: all that it has goes to the house, at the last prices. */
        void letFail(Member member) {
            member.failed = true;
            member.called = false;
            failures++;
            for (Paper paper : papers) {
                long position = member.positionIn(paper.number);
                long value = position * paper.last;
                member.take(paper.number, -position, value);
                house.take(paper.number, position, -value);
                paper.cost += value;
            }
            toSettle = member;
            losses = 0;
            if (house.holdsNothing()) {
                settleFailed();
            }
        }

        long sellOut(int instrument, int to, int price) {
            Paper paper = paperAt(instrument);
            Member member = memberAt(to);
            if (paper == null || member == null) {
                return 0;
            }
            long position = house.positionIn(instrument);
            long value = position * price;
            house.take(instrument, -position, value);
            member.take(instrument, position, -value);
            losses += paper.cost - value;
            paper.cost = 0;
            if (house.holdsNothing()) {
                settleFailed();
            }
            return position;
        }

        /** Settles the failed member, and returns what is uncovered by that. */
        long settleFailed() {
            Member member = toSettle;
            if (member == null) {
                return 0;
            }
            toSettle = null;
            member.settled = true;
            member.cash += member.deposit;
            member.deposit = 0;
            long missing = Math.max(0, -member.cash);
            long needed = missing + Math.max(0, losses);
            long rest = needed;
            long ownCash = Math.max(0, Math.min(rest, member.cash));
            member.cash -= ownCash;
            rest -= ownCash;
            rest -= takeShare(member, rest);
            rest -= takeShare(house, rest);
            rest -= takeFromOthers(member, rest);
            long taken = needed - rest;
            long given = Math.min(missing, taken);
            member.cash += given;
            house.cash += taken - given;
            house.deposit += rest;
            return rest;
        }

        private long takeShare(Member holder, long most) {
            long taken = Math.min(holder.share, most);
            holder.share -= taken;
            return taken;
        }

        /** Takes from the shares of the others, of each by its part, and the last ones one by one. */
        private long takeFromOthers(Member failed, long needed) {
            long all = 0;
            for (Member member : members) {
                all += member == failed ? 0 : member.share;
            }
            if (all <= 0) {
                return 0;
            }
            long most = Math.min(needed, all);
            long taken = 0;
            for (Member member : members) {
                taken += member == failed ? 0 : takeShare(member, most * member.share / all);
            }
            for (int turn = 0; turn < MOST_TURNS && taken < most; turn++) {
                for (Member member : members) {
                    taken += member == failed || taken == most ? 0 : takeShare(member, 1);
                }
            }
            return taken;
        }

        boolean isSameAs(Clearing other) {
            boolean same = tradeCount == other.tradeCount && scenarioCount == other.scenarioCount
                    && time == other.time && failures == other.failures && losses == other.losses
                    && house.isSameAs(other.house) && (toSettle == null) == (other.toSettle == null);
            for (int i = 0; same && i < MEMBERS; i++) {
                same = members[i].isSameAs(other.members[i]);
            }
            for (int i = 0; same && i < PAPERS; i++) {
                same = papers[i].isSameAs(other.papers[i]);
            }
            for (int i = 0; same && i < tradeCount && i < MOST_TRADES; i++) {
                same = trades[i].isSameAs(other.trades[i]);
            }
            return same;
        }
    }

    /** The books and the clearing together: all that is replayed. */
    private static final class Hall {
        private static final int WATCHED_TICKS = 2;

        final Books books = new Books();
        final Clearing clearing = new Clearing();

        void clear() {
            books.clear();
            clearing.clear();
        }

        boolean isSameAs(Hall other) {
            return books.isSameAs(other.books) && clearing.isSameAs(other.clearing);
        }

        /** Does a call that is known to be possible, lets stops wake behind it, and returns its answer. */
        long perform(Call call) {
            long answer;
            switch (call.what) {
                case Call.ORDER:
                    answer = letOrderCome(call);
                    break;
                case Call.STOP:
                    answer = letStopWait(call);
                    break;
                case Call.TIE:
                    answer = tieOrders(call.a, call.b);
                    break;
                case Call.CANCEL:
                    answer = cancelOrder(call.a);
                    break;
                case Call.SPREAD:
                    answer = letSpreadCome(call.a, call.b, call.c, call.d, call.e);
                    break;
                case Call.BAND:
                case Call.HALT:
                case Call.OPEN:
                case Call.SPLIT:
                    answer = changePaper(call);
                    break;
                case Call.TICK:
                    answer = passTicks(call.a);
                    break;
                default:
                    answer = moveMoney(call);
                    break;
            }
            wakeStops();
            return answer;
        }

        private long changePaper(Call call) {
            Paper paper = clearing.paperAt(call.a);
            if (paper == null) {
                return 0;
            }
            switch (call.what) {
                case Call.BAND:
                    return paper.changeBand(call.b);
                case Call.HALT:
                    paper.phase = AUCTION;
                    return 0;
                case Call.OPEN:
                    return openPaper(paper);
                default:
                    clearing.divide(paper, call.b);
                    books.divide(paper.number, call.b);
                    return paper.splits;
            }
        }

        private long moveMoney(Call call) {
            switch (call.what) {
                case Call.DEPOSIT:
                    return clearing.payDeposit(call.a, call.b);
                case Call.FUND:
                    return clearing.payShare(call.a, call.b);
                case Call.DIVIDEND:
                    return clearing.payDividend(call.a, call.b);
                case Call.BREAK:
                    clearing.undoTrade(call.a);
                    return 0;
                case Call.SCENARIO:
                    return clearing.addScenario(call.a, call.b, call.c);
                case Call.SELL:
                    return clearing.sellOut(call.a, call.b, call.c);
                default:
                    return clearing.settleFailed();
            }
        }

        private int letOrderCome(Call call) {
            int member = call.a;
            int instrument = call.b;
            int side = call.c;
            int price = call.d;
            int quantity = call.e;
            int kind = call.g;
            if (clearing.isContinuous(instrument)) {
                int could = books.sumGoodFor(instrument, 1 - side, price, member);
                if ((kind == ALL && could < quantity) || (kind == REST && could > 0)) {
                    return NONE;
                }
            }
            Order order = books.add(member, instrument, side, price, quantity);
            if (order == null) {
                return NONE;
            }
            order.size = call.f;
            order.cameAt = clearing.time;
            enter(order, kind == DAY || kind == REST);
            return order.number;
        }

        private int letStopWait(Call call) {
            Order order = books.add(call.a, call.b, call.c, call.d, call.e);
            if (order == null) {
                return NONE;
            }
            order.wake = call.f;
            order.cameAt = clearing.time;
            order.state = Order.WAITS;
            return order.number;
        }

        /** Lets an order trade as long as it can; what is left then stands, or goes. */
        private void enter(Order order, boolean stays) {
            Paper paper = clearing.paperAt(order.instrument);
            for (int turn = 0; turn < MOST_TURNS && order.left > 0; turn++) {
                if (paper == null || paper.phase != CONTINUOUS || !clearing.hasRoomFor(1)) {
                    break;
                }
                Order other = books.firstOf(order.instrument, 1 - order.side);
                if (other == null || !other.isGoodFor(order.price)) {
                    break;
                }
                if (other.member == order.member) {
                    other.goAway();
                } else if (paper.isTooFar(other.price)) {
                    paper.phase = AUCTION;
                } else {
                    int quantity = Math.min(order.left, other.part);
                    tradeWith(order, other, paper, quantity);
                    order.left -= quantity;
                    books.useShown(other, quantity);
                }
            }
            if (order.left > 0 && stays) {
                books.letStand(order);
            } else {
                order.goAway();
            }
        }

        private void tradeWith(Order order, Order other, Paper paper, int quantity) {
            boolean buys = order.side == BUYS;
            int buyer = buys ? order.member : other.member;
            int seller = buys ? other.member : order.member;
            clearing.makeTrade(paper, other.price, quantity, buyer, seller, buys);
            takeAway(order.tied);
            takeAway(other.tied);
        }

        private static void takeAway(Order order) {
            if (order != null) {
                order.goAway();
            }
        }

        private void wakeStops() {
            for (int turn = 0; turn < MOST_TURNS; turn++) {
                Order order = books.firstToWake(clearing);
                if (order == null) {
                    break;
                }
                order.state = Order.COMES;
                order.cameAt = clearing.time;
                enter(order, true);
            }
            for (Paper paper : clearing.papers) {
                paper.traded = false;
            }
        }

        private int tieOrders(int number, int otherNumber) {
            Order order = books.orderAt(number);
            Order other = books.orderAt(otherNumber);
            if (order != null && other != null) {
                order.tied = other;
                other.tied = order;
            }
            return 0;
        }

        private int cancelOrder(int number) {
            Order order = books.orderAt(number);
            if (order == null) {
                return 0;
            }
            Member member = clearing.memberAt(order.member);
            if (member != null && clearing.time - order.cameAt <= WATCHED_TICKS
                    && clearing.hasTraded(order.member, order.instrument, 1 - order.side, order.cameAt)) {
                member.suspicions++;
            }
            int left = order.left;
            order.goAway();
            return left;
        }

        private int letSpreadCome(int member, int first, int second, int quantity, int price) {
            int left = quantity;
            for (int turn = 0; turn < MOST_TURNS && left > 0 && clearing.hasRoomFor(2); turn++) {
                Order seller = books.firstOf(first, SELLS);
                Order buyer = books.firstOf(second, BUYS);
                if (seller == null || buyer == null || seller.price - buyer.price > price) {
                    break;
                }
                if (seller.member == member || buyer.member == member) {
                    takeAway(seller.member == member ? seller : null);
                    takeAway(buyer.member == member ? buyer : null);
                } else {
                    left -= tradeSpread(member, seller, buyer, left);
                }
            }
            return quantity - left;
        }

        private int tradeSpread(int member, Order seller, Order buyer, int most) {
            Paper bought = clearing.paperAt(seller.instrument);
            Paper sold = clearing.paperAt(buyer.instrument);
            if (bought == null || sold == null) {
                return most;
            }
            int quantity = Math.min(most, Math.min(seller.part, buyer.part));
            clearing.makeTrade(bought, seller.price, quantity, member, seller.member, true);
            clearing.makeTrade(sold, buyer.price, quantity, buyer.member, member, false);
            Order sellersOther = seller.tied;
            Order buyersOther = buyer.tied;
            books.useShown(seller, quantity);
            books.useShown(buyer, quantity);
            takeAway(sellersOther);
            takeAway(buyersOther);
            return quantity;
        }

        /** Opens an instrument at one price, and returns how much is traded by that. */
        private int openPaper(Paper paper) {
            int price = books.openingPrice(paper.number, paper.reference);
            int most = books.mostAt(paper.number, price);
            int traded = 0;
            for (int turn = 0; turn < MOST_TURNS && traded < most && clearing.hasRoomFor(1); turn++) {
                Order buyer = books.firstOf(paper.number, BUYS);
                Order seller = books.firstOf(paper.number, SELLS);
                if (buyer == null || seller == null || !buyer.isGoodFor(price) || !seller.isGoodFor(price)) {
                    break;
                }
                if (buyer.member == seller.member) {
                    takeAway(buyer.number > seller.number ? buyer : seller);
                } else {
                    traded += tradeInOpening(paper, price, buyer, seller, most - traded);
                }
            }
            if (traded > 0) {
                paper.reference = price;
            }
            paper.phase = CONTINUOUS;
            return traded;
        }

        private int tradeInOpening(Paper paper, int price, Order buyer, Order seller, int most) {
            int quantity = Math.min(most, Math.min(buyer.left, seller.left));
            clearing.makeTrade(paper, price, quantity, buyer.member, seller.member, false);
            takeAway(buyer.tied);
            takeAway(seller.tied);
            books.useAll(buyer, quantity);
            books.useAll(seller, quantity);
            return quantity;
        }

        private int passTicks(int ticks) {
            for (int i = 0; i < ticks; i++) {
                clearing.time++;
                clearing.reviewCalls();
                Member member = clearing.nextToFail();
                if (member != null) {
                    books.takeAwayOf(member.number);
                    clearing.letFail(member);
                }
            }
            return clearing.failures;
        }
    }

    /** Quantities at keys (instrument, side and price in one number), by rising keys; none of them is 0. */
    private static final class Levels {
        /** No more orders than that can ever stand, each at one price ahead of and behind each of its splits. */
        static final int MOST = MOST_ORDERS * (MOST_SPLITS + 1);

        private final int[] keys = new int[MOST];
        private final int[] quantities = new int[MOST];
        int count;

        int quantityAt(int key) {
            int place = placeOf(key);
            return place < count && place < MOST && keys[place] == key ? quantities[place] : 0;
        }

        /** The lowest key above one, or NONE. */
        int keyAbove(int key) {
            int place = placeOf(key + 1);
            return place < count && place < MOST ? keys[place] : NONE;
        }

        /** The place of the lowest key that is not below one. */
        private int placeOf(int key) {
            int place = 0;
            while (place < count && place < MOST && keys[place] < key) {
                place++;
            }
            return place;
        }

        void put(int key, int quantity) {
            int place = placeOf(key);
            if (place < 0 || place >= MOST) {
                return;
            }
            boolean has = place < count && keys[place] == key;
            if (quantity == 0 && has) {
                closeGapAt(place);
            } else if (quantity != 0 && has) {
                quantities[place] = quantity;
            } else if (quantity != 0 && count < MOST) {
                makeGapAt(place);
                keys[place] = key;
                quantities[place] = quantity;
            }
        }

        private void makeGapAt(int place) {
            for (int i = count; i > place && i > 0 && i < MOST; i--) {
                keys[i] = keys[i - 1];
                quantities[i] = quantities[i - 1];
            }
            count++;
        }

        private void closeGapAt(int place) {
            for (int i = place; i >= 0 && i + 1 < count && i + 1 < MOST; i++) {
                keys[i] = keys[i + 1];
                quantities[i] = quantities[i + 1];
            }
            count--;
        }

        void takeOver(Levels other) {
            count = other.count;
            for (int i = 0; i < count && i < MOST; i++) {
                keys[i] = other.keys[i];
                quantities[i] = other.quantities[i];
            }
        }

        void collect(Books books) {
            count = 0;
            for (int i = 0; i < books.count && i < books.orders.length; i++) {
                Order order = books.orders[i];
                if (order.stands()) {
                    int key = Feed.keyOf(order);
                    put(key, quantityAt(key) + order.part);
                }
            }
        }

        /** The lowest key above one at which another quantity stands in the other levels, or NONE. */
        int nextDifference(Levels other, int above) {
            int key = above;
            for (int turn = 0; turn < 2 * MOST; turn++) {
                int mine = keyAbove(key);
                int its = other.keyAbove(key);
                key = mine == NONE || its == NONE ? Math.max(mine, its) : Math.min(mine, its);
                if (key == NONE || quantityAt(key) != other.quantityAt(key)) {
                    break;
                }
            }
            return key;
        }

        int differencesFrom(Levels other) {
            int differences = 0;
            int key = nextDifference(other, NONE);
            for (int turn = 0; turn < 2 * MOST && key != NONE; turn++) {
                differences++;
                key = nextDifference(other, key);
            }
            return differences;
        }
    }

    /** A reader of the feed, with its own copy of what is shown. */
    private static final class Reader {
        final Levels copied = new Levels();
        int next;
    }

    /** The messages, of which the latest are kept, and their readers. */
    private static final class Feed {
        private static final int KEPT = 30;

        private final int[] keys = new int[KEPT];
        private final int[] quantities = new int[KEPT];
        private final Reader[] readers = new Reader[READERS];
        private Levels fresh = new Levels();
        /** What was shown behind the latest call. */
        Levels told = new Levels();
        int count;

        Feed() {
            for (int i = 0; i < readers.length; i++) {
                readers[i] = new Reader();
            }
        }

        static int keyOf(Order order) {
            return 100000 * order.instrument + 50000 * order.side + order.price;
        }

        Reader readerAt(int number) {
            return number < 0 || number >= readers.length ? null : readers[number];
        }

        /** Makes a message of each quantity that became another one. */
        void tell(Books books) {
            fresh.collect(books);
            int key = fresh.nextDifference(told, NONE);
            for (int turn = 0; turn < 2 * Levels.MOST && key != NONE; turn++) {
                addMessage(key, fresh.quantityAt(key));
                key = fresh.nextDifference(told, key);
            }
            Levels before = told;
            told = fresh;
            fresh = before;
        }

        private void addMessage(int key, int quantity) {
            int place = Math.floorMod(count, KEPT);
            keys[place] = key;
            quantities[place] = quantity;
            count++;
        }

        int readNext(Reader reader) {
            if (reader.next >= count) {
                return NONE;
            }
            if (reader.next < count - KEPT) {
                reader.next = count - KEPT;
                return -2;
            }
            int place = Math.floorMod(reader.next, KEPT);
            reader.next++;
            reader.copied.put(keys[place], quantities[place]);
            return keys[place];
        }

        int loseNext(Reader reader) {
            reader.next++;
            return count - reader.next;
        }

        int copyAll(Reader reader) {
            reader.copied.takeOver(told);
            reader.next = count;
            return told.count;
        }
    }
}
