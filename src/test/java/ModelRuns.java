import java.util.ArrayList;
import java.util.List;
import java.util.Map;
import java.util.Random;
import java.util.TreeMap;
import java.util.TreeSet;

/**
 * Runs of calls (by fixed seeds) on the class and on a plain, slow model of the document, side by side:
 * each answer, and all that can be asked behind each call, has to be the same.
 */
public class ModelRuns {
    private static final int RUNS = 180;
    private static int wrong;

    public static void main(String[] args) {
        for (int seed = 0; seed < RUNS && wrong < 5; seed++) {
            new Run(seed).go();
        }
        System.out.println(RUNS + " runs beside the model, " + wrong + " of them wrong");
        Run.reportWhatHappened();
        if (wrong > 0 || Run.sawTooLittle()) {
            System.exit(1);
        }
    }

    private interface Asked {
        long get();
    }

    private static String answerOf(Asked asked) {
        try {
            return String.valueOf(asked.get());
        } catch (IndexOutOfBoundsException e) {
            return e.getClass() == IndexOutOfBoundsException.class ? "IOOBE" : e.toString();
        } catch (IllegalArgumentException e) {
            return e.getClass() == IllegalArgumentException.class ? "IAE" : e.toString();
        } catch (IllegalStateException e) {
            return e.getClass() == IllegalStateException.class ? "ISE" : e.toString();
        } catch (RuntimeException e) {
            return e.toString();
        }
    }

    /** One run of calls. */
    private static final class Run {
        static final TreeMap<String, Integer> SEEN = new TreeMap<>();

        final int seed;
        final Random dice;
        final NettingHall real = new NettingHall();
        final Model model = new Model();
        final List<String> told = new ArrayList<>();
        final int instruments;
        final int middle;
        final int width;
        final int style;
        boolean failed;

        Run(int seed) {
            this.seed = seed;
            dice = new Random(seed);
            style = seed % 6;
            instruments = 1 + dice.nextInt(3);
            middle = style == 4 ? 3 + dice.nextInt(8) : 50 + dice.nextInt(200);
            width = 1 + dice.nextInt(style == 4 ? 3 : style == 2 ? 40 : 8);
        }

        static void saw(String what) {
            SEEN.merge(what, 1, Integer::sum);
        }

        static void reportWhatHappened() {
            System.out.println(SEEN);
        }

        /** A run that never fails a member or reaches a limit would prove little. */
        static boolean sawTooLittle() {
            String[] musts = {"a member failed", "200 trades", "120 orders", "a stop woke", "a band halted",
                "a message was lost", "uncovered", "shares by rounds", "own order taken", "a tie took one away",
                "spread traded", "opened", "pair of one member", "suspicious", "broken", "sold", "settled by call"};
            boolean little = false;
            for (String must : musts) {
                if (!SEEN.containsKey(must)) {
                    System.out.println("no run has seen this: " + must);
                    little = true;
                }
            }
            return little;
        }

        void go() {
            int most = 40 + dice.nextInt(472);
            for (int i = 0; i < most && !failed; i++) {
                step();
                compareAll(i % 16 == 0);
            }
            if (failed) {
                wrong++;
            }
        }

        void both(String call, Asked ofReal, Asked ofModel) {
            String got = answerOf(ofReal);
            String want = answerOf(ofModel);
            told.add(call + " = " + want);
            if (!got.equals(want)) {
                tellFault(call, got, want);
            }
        }

        void tellFault(String call, String got, String want) {
            failed = true;
            System.out.println("seed " + seed + ": " + call + " answers " + got + ", the model " + want);
            for (int i = Math.max(0, told.size() - 30); i < told.size(); i++) {
                System.out.println("    " + told.get(i));
            }
        }

        void compare(String call, Asked ofReal, Asked ofModel) {
            if (failed) {
                return;
            }
            String got = answerOf(ofReal);
            String want = answerOf(ofModel);
            if (!got.equals(want)) {
                tellFault(call, got, want);
            }
        }

        void compareAll(boolean thoroughly) {
            compare("trades()", () -> real.trades(), () -> model.trades.size());
            for (int i = -1; i <= model.orders.size(); i++) {
                int order = i;
                compare("standing(" + i + ")", () -> real.standing(order), () -> model.standing(order));
            }
            for (int i = -1; i <= 3; i++) {
                int paper = i;
                compare("instrument(" + i + ")", () -> real.instrument(paper), () -> model.instrument(paper));
                compare("indicated(" + i + ")", () -> real.indicated(paper), () -> model.indicated(paper));
                for (int j = -1; j <= 2; j++) {
                    int side = j;
                    compare("best(" + i + ", " + j + ")", () -> real.best(paper, side), () -> model.best(paper, side));
                }
            }
            for (int i = -2; i <= 5; i++) {
                int member = i;
                for (int j = -1; j <= 3; j++) {
                    int what = j;
                    compare("position(" + i + ", " + j + ")", () -> real.position(member, what),
                            () -> model.position(member, what));
                    compare("money(" + i + ", " + j + ")", () -> real.money(member, what),
                            () -> model.money(member, what));
                }
                compare("margin(" + i + ")", () -> real.margin(member), () -> model.margin(member));
                compare("worth(" + i + ")", () -> real.worth(member), () -> model.worth(member));
                compare("member(" + i + ")", () -> real.member(member), () -> model.member(member));
            }
            for (int i = -1; i <= 2; i++) {
                int reader = i;
                compare("wrong(" + i + ")", () -> real.wrong(reader), () -> model.wrong(reader));
            }
            if (thoroughly) {
                compareSeldom();
            }
        }

        void compareSeldom() {
            for (int i = -1; i <= model.trades.size(); i++) {
                int trade = i;
                for (int j = -1; j <= 4; j++) {
                    int what = j;
                    compare("trade(" + i + ", " + j + ")", () -> real.trade(trade, what),
                            () -> model.trade(trade, what));
                }
            }
            for (int i = 0; i < 3; i++) {
                int paper = i;
                for (int j = 0; j < 2; j++) {
                    int side = j;
                    for (int p = 0; p <= middle + width + 50; p++) {
                        int price = p;
                        compare("shown(" + i + ", " + j + ", " + p + ")", () -> real.shown(paper, side, price),
                                () -> model.shown(paper, side, price));
                    }
                }
            }
            compare("replays()", () -> real.replays() ? 1 : 0, () -> 1);
        }

        int odd(int usual, int least, int most) {
            if (dice.nextInt(60) > 0) {
                return usual;
            }
            int[] odds = {least - 1, most + 1, least, most, Integer.MIN_VALUE, Integer.MAX_VALUE};
            return odds[dice.nextInt(odds.length)];
        }

        int someMember() {
            return odd(style == 3 ? dice.nextInt(3) : dice.nextInt(5), 0, 4);
        }

        int somePaper() {
            return odd(dice.nextInt(instruments), 0, 2);
        }

        int someSide() {
            return odd(dice.nextInt(2), 0, 1);
        }

        int somePrice() {
            return odd(Math.max(1, middle - width + dice.nextInt(2 * width + 1)), 1, 9999);
        }

        int someQuantity() {
            int[] most = {12, 12, 40, 6, 200, 1000};
            return odd(1 + dice.nextInt(most[style]), 1, 1000);
        }

        int someOrder() {
            int count = model.orders.size();
            int number = 0;
            if (count > 0) {
                number = dice.nextInt(10) == 0 ? dice.nextInt(count) : Math.max(0, count - 1 - dice.nextInt(12));
            }
            return odd(number, 0, count - 1);
        }

        int someKind() {
            int roll = dice.nextInt(10);
            return odd(roll < 6 ? 0 : roll - 6, 0, 3);
        }

        void step() {
            int roll = dice.nextInt(100);
            if (roll < 42) {
                stepOrder();
            } else if (roll < 60) {
                stepOtherOrders(dice.nextInt(10));
            } else if (roll < 75) {
                stepPapers(dice.nextInt(14));
            } else if (roll < 90) {
                stepClearing(dice.nextInt(20));
            } else {
                stepFeeds(dice.nextInt(6));
            }
        }

        void stepOrder() {
            int m = someMember();
            int i = somePaper();
            int s = someSide();
            int p = somePrice();
            int q = someQuantity();
            boolean hides = dice.nextInt(style == 5 ? 2 : 3) == 0;
            int few = style == 5 ? 40 : 4;
            int part = hides ? 1 + dice.nextInt(Math.max(1, Math.min(Math.max(1, q), few))) : 0;
            int shown = odd(part, 0, q);
            int k = someKind();
            both("order(" + m + ", " + i + ", " + s + ", " + p + ", " + q + ", " + shown + ", " + k + ")",
                    () -> real.order(m, i, s, p, q, shown, k), () -> model.order(m, i, s, p, q, shown, k));
        }

        void stepOtherOrders(int roll) {
            if (roll < 3) {
                int m = someMember();
                int i = somePaper();
                int s = someSide();
                int p = somePrice();
                int q = someQuantity();
                int w = somePrice();
                both("stop(" + m + ", " + i + ", " + s + ", " + p + ", " + q + ", " + w + ")",
                        () -> real.stop(m, i, s, p, q, w), () -> model.stop(m, i, s, p, q, w));
            } else if (roll < 6) {
                int a = someOrder();
                int b = dice.nextInt(3) == 0 ? someOrder() : model.mateOf(a, dice);
                both("tie(" + a + ", " + b + ")", () -> {
                    real.tie(a, b);
                    return 0;
                }, () -> model.tie(a, b));
            } else if (roll < 8) {
                int a = someOrder();
                both("cancel(" + a + ")", () -> real.cancel(a), () -> model.cancel(a));
            } else {
                int m = someMember();
                int f = somePaper();
                int s = dice.nextInt(8) == 0 ? somePaper() : f + 1 >= instruments ? 0 : f + 1;
                int q = someQuantity();
                int p = odd(dice.nextInt(2 * width + 1) - width / 2, -9998, 9998);
                both("spread(" + m + ", " + f + ", " + s + ", " + q + ", " + p + ")",
                        () -> real.spread(m, f, s, q, p), () -> model.spread(m, f, s, q, p));
            }
        }

        void stepPapers(int roll) {
            int i = somePaper();
            if (roll < 2) {
                int p = odd(dice.nextInt(style == 1 ? 4 : 12), 0, 50);
                both("band(" + i + ", " + p + ")", () -> real.band(i, p), () -> model.band(i, p));
            } else if (roll < 4) {
                both("halt(" + i + ")", () -> {
                    real.halt(i);
                    return 0;
                }, () -> model.halt(i));
            } else if (roll < 11) {
                both("open(" + i + ")", () -> real.open(i), () -> model.open(i));
            } else if (roll < 12 && dice.nextInt(style == 4 ? 2 : 6) == 0) {
                int by = odd(2 + dice.nextInt(4), 2, 5);
                both("split(" + i + ", " + by + ")", () -> real.split(i, by), () -> model.split(i, by));
            } else if (roll < 13) {
                int a = odd(1 + dice.nextInt(9), 1, 1000);
                both("dividend(" + i + ", " + a + ")", () -> real.dividend(i, a), () -> model.dividend(i, a));
            } else {
                int t = odd(model.trades.isEmpty() ? 0 : dice.nextInt(model.trades.size()), 0, model.trades.size() - 1);
                both("breakTrade(" + t + ")", () -> {
                    real.breakTrade(t);
                    return 0;
                }, () -> model.breakTrade(t));
            }
        }

        void stepClearing(int roll) {
            int m = someMember();
            if (roll < 4) {
                int a = odd(1 + dice.nextInt(style == 2 ? 60 : 400), 1, 1000000);
                both("deposit(" + m + ", " + a + ")", () -> real.deposit(m, a), () -> model.deposit(m, a));
            } else if (roll < 8) {
                int who = dice.nextInt(5) == 0 ? -1 : m;
                int a = odd(1 + dice.nextInt(90), 1, 1000000);
                both("fund(" + who + ", " + a + ")", () -> real.fund(who, a), () -> model.fund(who, a));
            } else if (roll < 10) {
                int a = odd(dice.nextInt(101) - 50, -50, 50);
                int b = odd(dice.nextInt(101) - 50, -50, 50);
                int c = odd(dice.nextInt(101) - 50, -50, 50);
                both("scenario(" + a + ", " + b + ", " + c + ")", () -> real.scenario(a, b, c),
                        () -> model.scenario(a, b, c));
            } else if (roll < 15) {
                int t = odd(1 + dice.nextInt(dice.nextInt(8) == 0 ? 25 : 3), 1, 50);
                both("tick(" + t + ")", () -> real.tick(t), () -> model.tick(t));
            } else if (roll < 19) {
                int i = somePaper();
                int p = somePrice();
                both("sell(" + i + ", " + m + ", " + p + ")", () -> real.sell(i, m, p), () -> model.sell(i, m, p));
            } else {
                both("settle()", () -> real.settle(), () -> model.settleByCall());
            }
        }

        void stepFeeds(int roll) {
            int r = odd(dice.nextInt(2), 0, 1);
            if (roll < 4) {
                both("read(" + r + ")", () -> real.read(r), () -> model.read(r));
            } else if (roll < 5) {
                both("lose(" + r + ")", () -> real.lose(r), () -> model.lose(r));
            } else if (dice.nextInt(4) == 0) {
                both("copy(" + r + ")", () -> real.copy(r), () -> model.copy(r));
            }
        }
    }

    /** An order of the model. */
    private static final class Ord {
        int number;
        int member;
        int paper;
        int side;
        int price;
        int size;
        int left;
        int part;
        int wake;
        int came;
        long turn;
        boolean waits;
        Ord mate;

        boolean isGoodAt(int p) {
            return side == 0 ? price >= p : price <= p;
        }
    }

    /** The document, told a second time: books are lists that are kept in order. */
    private static final class Model {
        final List<Ord> orders = new ArrayList<>();
        final List<List<Ord>> books = new ArrayList<>();
        /** Price, quantity, buyer, seller, broken, time, paper, fee of the buyer, of the seller, split since then. */
        final List<long[]> trades = new ArrayList<>();
        final long[][] positions = new long[6][3];
        final long[] cash = new long[6];
        final long[] deposits = new long[6];
        final long[] shares = new long[6];
        final long[] volume = new long[5];
        final int[] calledAt = {-1, -1, -1, -1, -1};
        final int[] state = new int[5];
        final int[] suspicions = new int[5];
        final int[] last = new int[3];
        final int[] reference = new int[3];
        final int[] bands = new int[3];
        final int[] splits = new int[3];
        final boolean[] auction = new boolean[3];
        final long[] cost = new long[3];
        final List<int[]> scenarios = new ArrayList<>();
        final List<int[]> messages = new ArrayList<>();
        final List<TreeMap<Integer, Integer>> copies = List.of(new TreeMap<>(), new TreeMap<>());
        final int[] next = new int[2];
        final TreeSet<Integer> tradedPapers = new TreeSet<>();
        TreeMap<Integer, Integer> before = new TreeMap<>();
        long turns;
        int now;
        int failures;
        int toSettle = -1;
        long lost;

        Model() {
            for (int i = 0; i < 6; i++) {
                books.add(new ArrayList<>());
            }
        }

        static void exist(boolean exists) {
            if (!exists) {
                throw new IndexOutOfBoundsException();
            }
        }

        static void fit(boolean fits) {
            if (!fits) {
                throw new IllegalArgumentException();
            }
        }

        static void can(boolean possible) {
            if (!possible) {
                throw new IllegalStateException();
            }
        }

        static boolean in(long value, long least, long most) {
            return least <= value && value <= most;
        }

        int mateOf(int order, Random dice) {
            if (!in(order, 0, orders.size() - 1)) {
                return 0;
            }
            List<Integer> mates = new ArrayList<>();
            for (Ord o : orders) {
                if (o.member == orders.get(order).member && o.number != order && o.left > 0 && o.mate == null) {
                    mates.add(o.number);
                }
            }
            return mates.isEmpty() ? order : mates.get(dice.nextInt(mates.size()));
        }

        List<Ord> book(int paper, int side) {
            return books.get(2 * paper + side);
        }

        TreeMap<Integer, Integer> shownNow() {
            TreeMap<Integer, Integer> all = new TreeMap<>();
            for (List<Ord> book : books) {
                for (Ord o : book) {
                    all.merge(100000 * o.paper + 50000 * o.side + o.price, o.part, Integer::sum);
                }
            }
            return all;
        }

        void behindCall() {
            for (int turn = 0; turn < 10000; turn++) {
                Ord waking = null;
                for (Ord o : orders) {
                    boolean reached = o.side == 0 ? last[o.paper] >= o.wake : last[o.paper] <= o.wake;
                    if (waking == null && o.waits && reached && !auction[o.paper] && tradedPapers.contains(o.paper)) {
                        waking = o;
                    }
                }
                if (waking == null) {
                    break;
                }
                Run.saw("a stop woke");
                waking.waits = false;
                waking.came = now;
                come(waking, true);
            }
            tradedPapers.clear();
            TreeMap<Integer, Integer> after = shownNow();
            TreeSet<Integer> keys = new TreeSet<>(before.keySet());
            keys.addAll(after.keySet());
            for (int key : keys) {
                int quantity = after.getOrDefault(key, 0);
                if (quantity != before.getOrDefault(key, 0)) {
                    messages.add(new int[] {key, quantity});
                }
            }
            before = after;
        }

        void insert(Ord o) {
            o.part = o.size == 0 ? o.left : Math.min(o.size, o.left);
            o.turn = turns++;
            List<Ord> book = book(o.paper, o.side);
            int place = 0;
            while (place < book.size() && book.get(place).isGoodAt(o.price)) {
                place++;
            }
            book.add(place, o);
        }

        void remove(Ord o) {
            book(o.paper, o.side).remove(o);
            o.left = 0;
            o.part = 0;
            o.waits = false;
            if (o.mate != null) {
                o.mate.mate = null;
                o.mate = null;
            }
        }

        void tiesOf(Ord o) {
            Ord mate = o.mate;
            if (mate != null) {
                Run.saw("a tie took one away");
                remove(mate);
            }
        }

        void bookTrade(int paper, int price, int quantity, int buyer, int seller, boolean buyerPays) {
            long value = (long) price * quantity;
            int payer = buyerPays ? buyer : seller;
            long rate = volume[payer] >= 5000 ? 5 : volume[payer] >= 1000 ? 8 : 10;
            Run.saw("rate " + rate);
            long fee = value * rate / 10000;
            long paid = value * 2 / 10000;
            long ofBuyer = buyerPays ? fee : -paid;
            long ofSeller = buyerPays ? -paid : fee;
            trades.add(new long[] {price, quantity, buyer, seller, 0, now, paper, ofBuyer, ofSeller, 1});
            cash[buyer] -= value;
            cash[buyer] -= ofBuyer;
            cash[seller] += value;
            cash[seller] -= ofSeller;
            cash[5] += ofBuyer + ofSeller;
            positions[buyer][paper] += quantity;
            positions[seller][paper] -= quantity;
            volume[buyer] += quantity;
            volume[seller] += quantity;
            last[paper] = price;
            if (reference[paper] == 0) {
                reference[paper] = price;
            }
            tradedPapers.add(paper);
            if (trades.size() == 200) {
                Run.saw("200 trades");
            }
        }

        void takeFromStanding(Ord o, int quantity) {
            o.left -= quantity;
            o.part -= quantity;
            if (o.left == 0) {
                remove(o);
            } else if (o.part == 0) {
                book(o.paper, o.side).remove(o);
                insert(o);
            }
        }

        void come(Ord o, boolean stays) {
            List<Ord> others = book(o.paper, 1 - o.side);
            while (o.left > 0 && !auction[o.paper] && trades.size() < 200 && !others.isEmpty()) {
                Ord first = others.get(0);
                if (!first.isGoodAt(o.price)) {
                    break;
                }
                if (first.member == o.member) {
                    Run.saw("own order taken");
                    remove(first);
                    continue;
                }
                int away = Math.abs(first.price - reference[o.paper]);
                if (bands[o.paper] > 0 && reference[o.paper] > 0
                        && away > reference[o.paper] * bands[o.paper] / 100) {
                    Run.saw("a band halted");
                    auction[o.paper] = true;
                    break;
                }
                int quantity = Math.min(o.left, first.part);
                if (o.side == 0) {
                    bookTrade(o.paper, first.price, quantity, o.member, first.member, true);
                } else {
                    bookTrade(o.paper, first.price, quantity, first.member, o.member, false);
                }
                tiesOf(o);
                tiesOf(first);
                o.left -= quantity;
                takeFromStanding(first, quantity);
            }
            if (o.left > 0 && stays) {
                insert(o);
            } else {
                remove(o);
            }
        }

        Ord make(int m, int i, int s, int p, int q) {
            Ord o = new Ord();
            o.number = orders.size();
            o.member = m;
            o.paper = i;
            o.side = s;
            o.price = p;
            o.left = q;
            o.came = now;
            orders.add(o);
            if (orders.size() == 120) {
                Run.saw("120 orders");
            }
            return o;
        }

        long order(int m, int i, int s, int p, int q, int shown, int k) {
            exist(in(m, 0, 4) && in(i, 0, 2));
            fit(in(s, 0, 1) && in(p, 1, 9999) && in(q, 1, 1000) && in(shown, 0, q) && in(k, 0, 3));
            can(state[m] < 2 && orders.size() < 120 && !(auction[i] && (k == 1 || k == 2)));
            if (!auction[i]) {
                long could = 0;
                for (Ord o : book(i, 1 - s)) {
                    if (o.member != m && o.isGoodAt(p)) {
                        could += o.left;
                    }
                }
                if (k == 2 && could < q || k == 3 && could > 0) {
                    return -1;
                }
            }
            Ord o = make(m, i, s, p, q);
            o.size = shown;
            come(o, k == 0 || k == 3);
            behindCall();
            return o.number;
        }

        long stop(int m, int i, int s, int p, int q, int w) {
            exist(in(m, 0, 4) && in(i, 0, 2));
            fit(in(s, 0, 1) && in(p, 1, 9999) && in(q, 1, 1000) && in(w, 1, 9999));
            can(state[m] < 2 && orders.size() < 120);
            Ord o = make(m, i, s, p, q);
            o.wake = w;
            o.waits = true;
            behindCall();
            return o.number;
        }

        long tie(int a, int b) {
            exist(in(a, 0, orders.size() - 1) && in(b, 0, orders.size() - 1));
            Ord one = orders.get(a);
            Ord two = orders.get(b);
            fit(a != b && one.member == two.member);
            can(one.left > 0 && two.left > 0 && one.mate == null && two.mate == null);
            one.mate = two;
            two.mate = one;
            Run.saw("tied");
            behindCall();
            return 0;
        }

        long cancel(int a) {
            exist(in(a, 0, orders.size() - 1));
            Ord o = orders.get(a);
            can(o.left > 0);
            boolean traded = false;
            for (long[] t : trades) {
                traded |= t[5] >= o.came && t[6] == o.paper && t[o.side == 0 ? 3 : 2] == o.member;
            }
            if (traded && now - o.came <= 2) {
                Run.saw("suspicious");
                suspicions[o.member]++;
            }
            long left = o.left;
            remove(o);
            behindCall();
            return left;
        }

        long spread(int m, int f, int s, int q, int p) {
            exist(in(m, 0, 4) && in(f, 0, 2) && in(s, 0, 2));
            fit(f != s && in(q, 1, 1000) && in(p, -9998, 9998));
            can(state[m] < 2 && !auction[f] && !auction[s]);
            int left = q;
            List<Ord> sellers = book(f, 1);
            List<Ord> buyers = book(s, 0);
            while (left > 0 && trades.size() <= 198 && !sellers.isEmpty() && !buyers.isEmpty()) {
                Ord a = sellers.get(0);
                Ord b = buyers.get(0);
                if (a.price - b.price > p) {
                    break;
                }
                if (a.member == m || b.member == m) {
                    if (a.member == m) {
                        remove(a);
                    }
                    if (b.member == m) {
                        remove(b);
                    }
                    Run.saw("own order taken by a spread");
                    continue;
                }
                int quantity = Math.min(left, Math.min(a.part, b.part));
                bookTrade(f, a.price, quantity, m, a.member, true);
                bookTrade(s, b.price, quantity, b.member, m, false);
                boolean oneAnother = a.mate == b;
                if (oneAnother) {
                    Run.saw("a spread met two that are tied");
                    remove(a);
                    remove(b);
                } else {
                    tiesOf(a);
                    tiesOf(b);
                    takeFromStanding(a, quantity);
                    takeFromStanding(b, quantity);
                }
                left -= quantity;
                Run.saw("spread traded");
            }
            behindCall();
            return q - left;
        }

        long standing(int a) {
            exist(in(a, 0, orders.size() - 1));
            Ord o = orders.get(a);
            return o.left == 0 ? 0 : 10L * o.left + (o.waits ? 2 : 1);
        }

        long best(int i, int s) {
            exist(in(i, 0, 2));
            fit(in(s, 0, 1));
            return book(i, s).isEmpty() ? -1 : book(i, s).get(0).price;
        }

        long shown(int i, int s, int p) {
            exist(in(i, 0, 2));
            fit(in(s, 0, 1) && in(p, 1, 9999));
            return shownNow().getOrDefault(100000 * i + 50000 * s + p, 0);
        }

        long band(int i, int percent) {
            exist(in(i, 0, 2));
            fit(in(percent, 0, 50));
            int was = bands[i];
            bands[i] = percent;
            behindCall();
            return was;
        }

        long halt(int i) {
            exist(in(i, 0, 2));
            can(!auction[i]);
            auction[i] = true;
            behindCall();
            return 0;
        }

        /** The price of an opening and its quantity. */
        long[] opening(int i) {
            TreeSet<Integer> prices = new TreeSet<>();
            for (Ord o : book(i, 0)) {
                prices.add(o.price);
            }
            for (Ord o : book(i, 1)) {
                prices.add(o.price);
            }
            long[] best = null;
            for (int price : prices) {
                long buys = 0;
                long sells = 0;
                for (Ord o : book(i, 0)) {
                    buys += o.price >= price ? o.left : 0;
                }
                for (Ord o : book(i, 1)) {
                    sells += o.price <= price ? o.left : 0;
                }
                long[] as = {-Math.min(buys, sells), Math.abs(buys - sells), Math.abs(price - reference[i]), price};
                if (best == null || isLess(as, best)) {
                    best = as;
                }
            }
            return best == null ? new long[] {0, 0} : new long[] {best[3], -best[0]};
        }

        static boolean isLess(long[] a, long[] b) {
            for (int i = 0; i < a.length; i++) {
                if (a[i] != b[i]) {
                    return a[i] < b[i];
                }
            }
            return false;
        }

        long indicated(int i) {
            exist(in(i, 0, 2));
            long[] at = opening(i);
            return at[1] == 0 ? 0 : 1000000 * at[0] + at[1];
        }

        long open(int i) {
            exist(in(i, 0, 2));
            can(auction[i]);
            long[] at = opening(i);
            int price = (int) at[0];
            List<Ord> buyers = book(i, 0);
            List<Ord> sellers = book(i, 1);
            long sum = 0;
            while (sum < at[1] && trades.size() < 200 && !buyers.isEmpty() && !sellers.isEmpty()) {
                Ord b = buyers.get(0);
                Ord s = sellers.get(0);
                if (b.price < price || s.price > price) {
                    break;
                }
                if (b.member == s.member) {
                    Run.saw("pair of one member");
                    remove(b.number > s.number ? b : s);
                    continue;
                }
                int quantity = (int) Math.min(at[1] - sum, Math.min(b.left, s.left));
                bookTrade(i, price, quantity, b.member, s.member, false);
                tiesOf(b);
                tiesOf(s);
                for (Ord o : List.of(b, s)) {
                    o.left -= quantity;
                    if (o.left == 0) {
                        remove(o);
                    } else {
                        o.part = o.size == 0 ? o.left : Math.min(o.size, o.left);
                    }
                }
                sum += quantity;
            }
            if (sum > 0) {
                Run.saw("opened");
                reference[i] = price;
                last[i] = price;
            }
            auction[i] = false;
            behindCall();
            return sum;
        }

        long split(int i, int by) {
            exist(in(i, 0, 2));
            fit(in(by, 2, 5));
            can(splits[i] < 3);
            splits[i]++;
            Run.saw("split");
            for (Ord o : orders) {
                if (o.paper == i) {
                    o.price = Math.max(1, o.price / by);
                    o.wake = Math.max(1, o.wake / by);
                    o.left *= by;
                    o.size *= by;
                    o.part *= by;
                }
            }
            for (int s = 0; s < 2; s++) {
                int up = s == 0 ? -1 : 1;
                book(i, s).sort((a, b) -> a.price != b.price ? up * Integer.compare(a.price, b.price)
                        : Long.compare(a.turn, b.turn));
            }
            for (long[] t : trades) {
                t[9] *= t[6] == i ? by : 1;
            }
            for (long[] held : positions) {
                held[i] *= by;
            }
            last[i] = last[i] == 0 ? 0 : Math.max(1, last[i] / by);
            reference[i] = reference[i] == 0 ? 0 : Math.max(1, reference[i] / by);
            behindCall();
            return splits[i];
        }

        long dividend(int i, int amount) {
            exist(in(i, 0, 2));
            fit(in(amount, 1, 1000));
            long paid = 0;
            for (int m = 0; m < 6; m++) {
                cash[m] += positions[m][i] * amount;
                if (positions[m][i] > 0) {
                    paid += positions[m][i] * amount;
                }
            }
            behindCall();
            return paid;
        }

        long instrument(int i) {
            exist(in(i, 0, 2));
            return 10L * last[i] + (auction[i] ? 1 : 0);
        }

        long trade(int t, int what) {
            exist(in(t, 0, trades.size() - 1));
            fit(in(what, 0, 3));
            long[] trade = trades.get(t);
            return what == 2 ? 10 * trade[2] + trade[3] : trade[what == 3 ? 4 : what];
        }

        long breakTrade(int t) {
            exist(in(t, 0, trades.size() - 1));
            long[] trade = trades.get(t);
            int b = (int) trade[2];
            int s = (int) trade[3];
            int i = (int) trade[6];
            can(trade[4] == 0 && now - trade[5] <= 20 && state[b] < 2 && state[s] < 2);
            trade[4] = 1;
            positions[b][i] -= trade[1] * trade[9];
            positions[s][i] += trade[1] * trade[9];
            cash[b] += trade[0] * trade[1] + trade[7];
            cash[s] -= trade[0] * trade[1] - trade[8];
            cash[5] -= trade[7] + trade[8];
            Run.saw("broken");
            behindCall();
            return 0;
        }

        int place(int member) {
            exist(in(member, -1, 4));
            return member < 0 ? 5 : member;
        }

        long position(int m, int i) {
            exist(in(i, 0, 2));
            return positions[place(m)][i];
        }

        long money(int m, int what) {
            int at = place(m);
            fit(in(what, 0, 2));
            return what == 0 ? cash[at] : what == 1 ? deposits[at] : shares[at];
        }

        long deposit(int m, int amount) {
            exist(in(m, 0, 4));
            fit(in(amount, 1, 1000000));
            can(state[m] < 2);
            return deposits[m] += amount;
        }

        long fund(int m, int amount) {
            int at = place(m);
            fit(in(amount, 1, 1000000));
            can(m < 0 || state[m] < 2);
            return shares[at] += amount;
        }

        long scenario(int a, int b, int c) {
            fit(in(a, -50, 50) && in(b, -50, 50) && in(c, -50, 50));
            can(scenarios.size() < 4);
            scenarios.add(new int[] {a, b, c});
            return scenarios.size();
        }

        long margin(int m) {
            exist(in(m, 0, 4));
            long most = 0;
            for (int[] scenario : scenarios) {
                long loss = 0;
                for (int i = 0; i < 3; i++) {
                    loss -= positions[m][i] * last[i] * scenario[i] / 100;
                }
                most = Math.max(most, loss);
            }
            return most;
        }

        long worth(int m) {
            exist(in(m, 0, 4));
            long sum = cash[m] + deposits[m];
            for (int i = 0; i < 3; i++) {
                sum += positions[m][i] * last[i];
            }
            return sum;
        }

        long member(int m) {
            exist(in(m, 0, 4));
            return 10L * suspicions[m] + state[m];
        }

        long tick(int ticks) {
            fit(in(ticks, 1, 50));
            for (int t = 0; t < ticks; t++) {
                now++;
                for (int m = 0; m < 5; m++) {
                    if (state[m] == 0 && worth(m) < margin(m)) {
                        state[m] = 1;
                        calledAt[m] = now;
                    } else if (state[m] == 1 && worth(m) >= margin(m)) {
                        state[m] = 0;
                        Run.saw("called no more");
                    }
                }
                for (int m = 0; m < 5 && toSettle < 0; m++) {
                    if (state[m] == 1 && calledAt[m] <= now - 3) {
                        letFail(m);
                        break;
                    }
                }
            }
            behindCall();
            return failures;
        }

        boolean houseIsEmpty() {
            return positions[5][0] == 0 && positions[5][1] == 0 && positions[5][2] == 0;
        }

        void letFail(int m) {
            Run.saw("a member failed");
            state[m] = 2;
            failures++;
            for (Ord o : orders) {
                if (o.member == m && o.left > 0) {
                    remove(o);
                }
            }
            for (int i = 0; i < 3; i++) {
                long value = positions[m][i] * last[i];
                cash[m] += value;
                cash[5] -= value;
                cost[i] += value;
                positions[5][i] += positions[m][i];
                positions[m][i] = 0;
            }
            toSettle = m;
            lost = 0;
            if (houseIsEmpty()) {
                Run.saw("settled at once");
                settle();
            }
        }

        long sell(int i, int m, int p) {
            exist(in(i, 0, 2) && in(m, 0, 4));
            fit(in(p, 1, 9999));
            can(positions[5][i] != 0 && state[m] < 2);
            long sold = positions[5][i];
            Run.saw("sold");
            positions[5][i] = 0;
            positions[m][i] += sold;
            cash[5] += sold * p;
            cash[m] -= sold * p;
            lost += cost[i] - sold * p;
            cost[i] = 0;
            if (toSettle >= 0 && houseIsEmpty()) {
                settle();
            }
            behindCall();
            return sold;
        }

        long settleByCall() {
            can(toSettle >= 0);
            Run.saw("settled by call");
            long uncovered = settle();
            behindCall();
            return uncovered;
        }

        long settle() {
            int m = toSettle;
            toSettle = -1;
            state[m] = 3;
            cash[m] += deposits[m];
            deposits[m] = 0;
            long missing = cash[m] < 0 ? -cash[m] : 0;
            long need = missing + (lost > 0 ? lost : 0);
            long pot = 0;
            if (cash[m] > 0) {
                long x = Math.min(cash[m], need);
                cash[m] -= x;
                need -= x;
                pot += x;
            }
            for (int at : new int[] {m, 5}) {
                long x = Math.min(shares[at], need);
                shares[at] -= x;
                need -= x;
                pot += x;
            }
            long all = 0;
            for (int o = 0; o < 5; o++) {
                all += o == m ? 0 : shares[o];
            }
            if (need >= all) {
                for (int o = 0; o < 5; o++) {
                    if (o != m) {
                        need -= shares[o];
                        pot += shares[o];
                        shares[o] = 0;
                    }
                }
            } else {
                long asked = need;
                for (int o = 0; o < 5; o++) {
                    if (o != m) {
                        long x = asked * shares[o] / all;
                        shares[o] -= x;
                        need -= x;
                        pot += x;
                    }
                }
                while (need > 0) {
                    for (int o = 0; o < 5 && need > 0; o++) {
                        if (o != m && shares[o] > 0) {
                            Run.saw("shares by rounds");
                            shares[o]--;
                            need--;
                            pot++;
                        }
                    }
                }
            }
            long back = Math.min(pot, missing);
            cash[m] += back;
            cash[5] += pot - back;
            deposits[5] += need;
            if (need > 0) {
                Run.saw("uncovered");
            }
            return need;
        }

        long read(int r) {
            exist(in(r, 0, 1));
            if (next[r] == messages.size()) {
                return -1;
            }
            if (next[r] < messages.size() - 30) {
                next[r] = messages.size() - 30;
                Run.saw("a message was kept no more");
                return -2;
            }
            int[] message = messages.get(next[r]++);
            copies.get(r).put(message[0], message[1]);
            return message[0];
        }

        long lose(int r) {
            exist(in(r, 0, 1));
            can(next[r] < messages.size());
            Run.saw("a message was lost");
            return messages.size() - ++next[r];
        }

        long copy(int r) {
            exist(in(r, 0, 1));
            copies.get(r).clear();
            copies.get(r).putAll(shownNow());
            next[r] = messages.size();
            return shownNow().size();
        }

        long wrong(int r) {
            exist(in(r, 0, 1));
            TreeMap<Integer, Integer> now = shownNow();
            TreeSet<Integer> keys = new TreeSet<>(now.keySet());
            keys.addAll(copies.get(r).keySet());
            long count = 0;
            for (int key : keys) {
                Map<Integer, Integer> mine = copies.get(r);
                count += now.getOrDefault(key, 0).equals(mine.getOrDefault(key, 0)) ? 0 : 1;
            }
            return count;
        }
    }
}
