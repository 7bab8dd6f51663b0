import java.lang.reflect.InvocationTargetException;
import java.lang.reflect.Method;
import java.util.ArrayList;
import java.util.List;

/**
 * The arguments of each promise: the least and the greatest are taken; what is below, above and far away is refused
 * by the exception that is due, the first one if several apply; and a call that throws changes nothing.
 */
public class ArgumentEdges extends Checks {
    /** A range of an argument; what is outside does not exist if it is a number of something, or is out of range. */
    private static final class Range {
        final int least;
        final int most;
        final boolean ofThings;

        Range(int least, int most, boolean ofThings) {
            this.least = least;
            this.most = most;
            this.ofThings = ofThings;
        }
    }

    private interface Maker {
        NettingHall make();
    }

    private interface Use {
        void on(NettingHall x);
    }

    private static final int LAST_ORDER = 13, LAST_TRADE = 4;
    private static final Maker FAILED = ArgumentEdges::failed, FULL = ArgumentEdges::full, NEW = NettingHall::new;
    private static final Maker HALTED = ArgumentEdges::halted, ONE_HALTED = ArgumentEdges::oneHalted;
    private static final Maker TIED = ArgumentEdges::tied, SPLIT = ArgumentEdges::splitOut;
    private static final Maker BROKEN = ArgumentEdges::broken;
    private static final Range MEMBER = things(0, 4), MEMBER_OR_HOUSE = things(-1, 4), PAPER = things(0, 2);
    private static final Range ORDER = things(0, LAST_ORDER), TRADE = things(0, LAST_TRADE), READER = things(0, 1);
    private static final Range AMOUNT = numbers(1, 1000000), SIDE = numbers(0, 1), PRICE = numbers(1, 9999);
    private static final Range QUANTITY = numbers(1, 1000), KIND = numbers(0, 3), PERCENT = numbers(-50, 50);

    public static void main(String[] args) {
        money();
        orders();
        instruments();
        clearing();
        marginsAndTime();
        feeds();
        withoutArguments();
        bothTheSame();
        shownByQuantity();
        end("the arguments");
    }

    private static Range things(int least, int most) {
        return new Range(least, most, true);
    }

    private static Range numbers(int least, int most) {
        return new Range(least, most, false);
    }

    private static int[] with(int... arguments) {
        return arguments;
    }

    private static void money() {
        promise("deposit", with(0, 5), MEMBER, AMOUNT);
        notPossible("deposit", FAILED, with(1, 5), MEMBER, AMOUNT);
        promise("fund", with(0, 5), MEMBER_OR_HOUSE, AMOUNT);
        notPossible("fund", FAILED, with(1, 5), MEMBER_OR_HOUSE, AMOUNT);
    }

    private static void orders() {
        Range[] order = {MEMBER, PAPER, SIDE, PRICE, QUANTITY, numbers(0, 7), KIND};
        promise("order", with(3, 1, 0, 20, 7, 0, 0), order);
        notPossible("order", FAILED, with(1, 1, 0, 20, 7, 0, 0), order);
        notPossible("order", FULL, with(3, 1, 0, 20, 7, 0, 0), order);
        notPossible("order", HALTED, with(3, 1, 0, 20, 7, 0, NOW), order);
        notPossible("order", HALTED, with(3, 1, 0, 20, 7, 0, ALL), order);
        Range[] stop = {MEMBER, PAPER, SIDE, PRICE, QUANTITY, PRICE};
        promise("stop", with(3, 1, 0, 20, 7, 30), stop);
        notPossible("stop", FAILED, with(1, 1, 0, 20, 7, 30), stop);
        notPossible("stop", FULL, with(3, 1, 0, 20, 7, 30), stop);
        promise("tie", with(0, LAST_ORDER), ORDER, ORDER);
        promise("tie", with(LAST_ORDER, 0), ORDER, ORDER);
        notPossible("tie", TIED, with(0, 12), ORDER, ORDER);
        notPossible("tie", TIED, with(13, 0), ORDER, ORDER);
        notPossible("tie", FAILED, with(0, 3), ORDER, ORDER);
        notPossible("tie", FAILED, with(3, 0), ORDER, ORDER);
        promise("cancel", with(0), ORDER);
        notPossible("cancel", FAILED, with(1), ORDER);
        Range[] spread = {MEMBER, PAPER, PAPER, QUANTITY, numbers(-9998, 9998)};
        promise("spread", with(3, 0, 1, 7, 5), spread);
        promise("spread", with(3, 1, 2, 7, 5), spread);
        notPossible("spread", FAILED, with(1, 1, 0, 7, 5), spread);
        notPossible("spread", ONE_HALTED, with(3, 0, 1, 7, 5), spread);
        notPossible("spread", ONE_HALTED, with(3, 1, 0, 7, 5), spread);
        promise("standing", with(0), ORDER);
        promise("best", with(0, 0), PAPER, SIDE);
        promise("shown", with(0, 0, 5), PAPER, SIDE, PRICE);
    }

    private static void instruments() {
        promise("band", with(0, 5), PAPER, numbers(0, 50));
        promise("halt", with(0), PAPER);
        notPossible("halt", HALTED, with(0), PAPER);
        promise("indicated", with(0), PAPER);
        promise("open", HALTED, with(0), PAPER);
        notPossible("open", FAILED, with(0), PAPER);
        promise("split", with(0, 3), PAPER, numbers(2, 5));
        notPossible("split", SPLIT, with(1, 3), PAPER, numbers(2, 5));
        promise("dividend", with(0, 3), PAPER, numbers(1, 1000));
        promise("instrument", with(0), PAPER);
    }

    private static void clearing() {
        promise("trade", with(0, 0), TRADE, numbers(0, 3));
        promise("breakTrade", with(0), TRADE);
        notPossible("breakTrade", FAILED, with(1), TRADE);
        notPossible("breakTrade", BROKEN, with(0), TRADE);
        promise("position", with(0, 0), MEMBER_OR_HOUSE, PAPER);
        promise("money", with(0, 0), MEMBER_OR_HOUSE, numbers(0, 2));
    }

    private static void marginsAndTime() {
        promise("scenario", with(1, 2, 3), PERCENT, PERCENT, PERCENT);
        notPossible("scenario", FULL, with(1, 2, 3), PERCENT, PERCENT, PERCENT);
        promise("margin", with(0), MEMBER);
        promise("worth", with(0), MEMBER);
        promise("member", with(0), MEMBER);
        promise("tick", with(3), numbers(1, 50));
        promise("sell", with(0, 3, 5), PAPER, MEMBER, PRICE);
        notPossible("sell", FAILED, with(0, 1, 5), PAPER, MEMBER, PRICE);
        notPossible("sell", NEW, with(0, 3, 5), PAPER, MEMBER, PRICE);
    }

    private static void feeds() {
        promise("read", with(0), READER);
        promise("lose", with(0), READER);
        notPossible("lose", NEW, with(0), READER);
        promise("copy", with(0), READER);
        promise("wrong", with(0), READER);
    }

    private static void withoutArguments() {
        about("calls without arguments");
        throwsIt("trades()", NOTHING, () -> failed().trades());
        throwsIt("settle()", NOTHING, () -> failed().settle());
        notNow("settle() of a new hall", () -> new NettingHall().settle());
        throwsIt("replays()", NOTHING, () -> failed().replays());
        NettingHall x = new NettingHall();
        x.deposit(0, 9);
        nameOf(() -> x.settle());
        is("what is left by a settle() that throws", x.money(0, 1), 9);
    }

    private static void bothTheSame() {
        about("IllegalArgumentException if both are the same");
        for (int i = 0; i < 3; i++) {
            int same = i;
            outOfRange("spread", () -> failed().spread(0, same, same, 1, 0));
            outOfRange("spread of a failed one", () -> failed().spread(1, same, same, 1, 0));
            outOfRange("spread while it is in AUCTION", () -> halted().spread(0, same, same, 1, 0));
        }
        outOfRange("tie(0, 0)", () -> failed().tie(0, 0));
        outOfRange("tie of one that is gone", () -> failed().tie(1, 1));
        outOfRange("tie of one that is tied", () -> tied().tie(12, 12));
        outOfRange("tie of two members", () -> failed().tie(0, 11));
        outOfRange("tie of two members, one of them gone", () -> failed().tie(1, 0));
        noSuch("tie of none with itself", () -> failed().tie(-1, -1));
        noSuch("spread of what is not there with itself", () -> failed().spread(0, 3, 3, 1, 0));
        unchanged("tie(0, 0)", FAILED, x -> x.tie(0, 0));
        unchanged("spread(0, 1, 1, 1, 0)", FAILED, x -> x.spread(0, 1, 1, 1, 0));
    }

    private static void shownByQuantity() {
        about("shown: 0 to quantity");
        for (int quantity : with(1, 2, 999, 1000)) {
            outOfRange("one more", () -> failed().order(0, 1, BUY, 5, quantity, quantity + 1, DAY));
            throwsIt("all of it", NOTHING, () -> failed().order(0, 1, BUY, 5, quantity, quantity, DAY));
            throwsIt("0", NOTHING, () -> failed().order(0, 1, BUY, 5, quantity, 0, DAY));
            outOfRange("-1", () -> failed().order(0, 1, BUY, 5, quantity, -1, DAY));
        }
        outOfRange("1 of 0", () -> failed().order(0, 1, BUY, 5, 0, 1, DAY));
        outOfRange("0 of 0", () -> failed().order(0, 1, BUY, 5, 0, 0, DAY));
        outOfRange("both far below", () -> failed().order(0, 1, BUY, 5, FAR[0], FAR[0], DAY));
        outOfRange("both far above", () -> failed().order(0, 1, BUY, 5, FAR[1], FAR[1], DAY));
    }

    private static void promise(String name, int[] usual, Range... ranges) {
        promise(name, FAILED, usual, ranges);
    }

    /** The usual arguments, and each range's ends, are taken; each that is outside, or two of them, is refused. */
    private static void promise(String name, Maker like, int[] usual, Range... ranges) {
        about(name);
        taken(name, like.make(), usual);
        for (int i = 0; i < usual.length; i++) {
            for (int end : with(ranges[i].least, ranges[i].most)) {
                int[] arguments = usual.clone();
                arguments[i] = end;
                if (!hasTwins(name, arguments)) {
                    taken(name, like.make(), arguments);
                }
            }
        }
        refused(name, like, usual, ranges);
    }

    /** The usual arguments are in their ranges, but the call is not possible; that is asked last. */
    private static void notPossible(String name, Maker like, int[] usual, Range... ranges) {
        about(name + ", not possible now");
        NettingHall x = like.make();
        throwsIt(tell(name, usual), NOT_NOW, () -> call(x, name, usual));
        refused(name, like, usual, ranges);
        unchanged(tell(name, usual), like, y -> call(y, name, usual));
    }

    private static void refused(String name, Maker like, int[] usual, Range[] ranges) {
        for (int i = 0; i < usual.length; i++) {
            List<int[]> wrongs = new ArrayList<>();
            for (int wrong : outside(ranges[i])) {
                int[] arguments = usual.clone();
                arguments[i] = wrong;
                wrongs.add(arguments);
                for (int j = i + 1; j < usual.length; j++) {
                    int[] two = arguments.clone();
                    two[j] = wrong < 0 ? ranges[j].least - 1 : ranges[j].most + 1;
                    wrongs.add(two);
                }
            }
            NettingHall x = like.make();
            for (int[] arguments : wrongs) {
                throwsIt(tell(name, arguments), dueFor(arguments, ranges), () -> call(x, name, arguments));
            }
            is(name + " that threw: what is left", allOf(x), allOf(like.make()));
        }
    }

    private static void unchanged(String call, Maker like, Use use) {
        NettingHall x = like.make();
        nameOf(() -> use.on(x));
        is(call + " that threw: what is left", allOf(x), allOf(like.make()));
    }

    private static String dueFor(int[] arguments, Range[] ranges) {
        String due = OUT_OF_RANGE;
        for (int i = 0; i < arguments.length; i++) {
            boolean fits = arguments[i] >= ranges[i].least && arguments[i] <= ranges[i].most;
            if (!fits && ranges[i].ofThings) {
                due = NO_SUCH;
            }
        }
        return due;
    }

    private static int[] outside(Range range) {
        return with(range.least - 1, range.most + 1, FAR[0], FAR[1]);
    }

    private static boolean hasTwins(String name, int[] arguments) {
        return name.equals("tie") && arguments[0] == arguments[1]
                || name.equals("spread") && arguments[1] == arguments[2];
    }

    private static void taken(String name, NettingHall x, int[] arguments) {
        throwsIt(tell(name, arguments), NOTHING, () -> call(x, name, arguments));
    }

    private static String tell(String name, int[] arguments) {
        StringBuilder call = new StringBuilder(name);
        for (int i = 0; i < arguments.length; i++) {
            call.append(i == 0 ? "(" : ", ").append(arguments[i]);
        }
        return call.append(")").toString();
    }

    private static Object call(NettingHall x, String name, int[] arguments) {
        Object[] boxed = new Object[arguments.length];
        Class<?>[] types = new Class<?>[arguments.length];
        for (int i = 0; i < arguments.length; i++) {
            boxed[i] = arguments[i];
            types[i] = int.class;
        }
        try {
            Method method = NettingHall.class.getMethod(name, types);
            return method.invoke(x, boxed);
        } catch (InvocationTargetException e) {
            throw (RuntimeException) e.getCause();
        } catch (ReflectiveOperationException e) {
            throw new UnsupportedOperationException(e);
        }
    }

    // ---- halls to call

    /**
     * Member 1 has failed and is to be settled, and the house has some of each instrument; orders 0, 12 and 13
     * (a stop) are of member 0, 11 of member 4, the others are gone; trades 0 and 4 are of others and can be broken.
     */
    private static NettingHall failed() {
        NettingHall x = new NettingHall();
        x.order(0, 0, BUY, 40, 10, 3, DAY);
        trade(x, 3, 2, 2, 70, 5);
        trade(x, 1, 0, 0, 100, 20);
        trade(x, 1, 0, 1, 100, 10);
        trade(x, 1, 0, 2, 100, 5);
        trade(x, 3, 2, 0, 60, 5);
        x.deposit(0, 10000);
        x.deposit(2, 10000);
        x.deposit(3, 10000);
        x.scenario(-10, 5, 0);
        x.tick(4);
        x.order(4, 1, SELL, 90, 8, 0, DAY);
        x.order(0, 1, BUY, 30, 5, 0, DAY);
        x.stop(0, 2, BUY, 80, 3, 95);
        return x;
    }

    private static NettingHall full() {
        NettingHall x = failed();
        for (int i = LAST_ORDER + 1; i < 120; i++) {
            x.order(4, 1, BUY, 1, 1, 0, DAY);
        }
        for (int i = 1; i < 4; i++) {
            x.scenario(i, i, i);
        }
        return x;
    }

    private static NettingHall halted() {
        NettingHall x = oneHalted();
        x.halt(1);
        x.halt(2);
        return x;
    }

    private static NettingHall oneHalted() {
        NettingHall x = failed();
        x.halt(0);
        return x;
    }

    private static NettingHall tied() {
        NettingHall x = failed();
        x.tie(12, 13);
        return x;
    }

    private static NettingHall splitOut() {
        NettingHall x = failed();
        x.split(1, 2);
        x.split(1, 3);
        x.split(1, 5);
        return x;
    }

    private static NettingHall broken() {
        NettingHall x = failed();
        x.breakTrade(0);
        return x;
    }

    /** All that can be asked, and what some calls answer then that tell what cannot be asked. */
    private static String allOf(NettingHall x) {
        StringBuilder all = new StringBuilder(stateOf(x));
        Asked[] more = {
            () -> x.read(0), () -> x.lose(1), () -> x.band(0, 9), () -> x.band(1, 9), () -> x.band(2, 9),
            () -> x.scenario(1, 1, 1), () -> x.split(0, 2), () -> x.order(2, 0, BUY, 1, 1, 0, DAY), () -> x.tick(1),
            () -> x.member(0), () -> x.settle(), () -> x.read(0), () -> x.replays() ? 1 : 0,
        };
        for (Asked asked : more) {
            all.append(' ').append(nameOf(() -> all.append(asked.get())));
        }
        return all.toString();
    }

    private interface Asked {
        long get();
    }
}
