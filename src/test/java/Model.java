import java.math.BigInteger;
import java.util.ArrayList;
import java.util.Comparator;
import java.util.List;
import java.util.regex.Matcher;
import java.util.regex.Pattern;

/**
 * The document once more, written as plainly as it goes and apart from the class, with lists of
 * small objects and without regard to speed. ModelTest compares both.
 */
final class Model {
    static final int NONE = -1;

    record Unit(int kind, int due, long came, int item, int site, int owner, int link) {
    }

    record Request(int site, int item, int priority, int day, long came) {
    }

    static final class Base {
        int lead;
        final int[] level = new int[4];
        final int[] onHand = new int[4];
        final int[] reserve = new int[4];
        final int[] share = new int[4];
        final int[] rate = new int[4];
        final int[][] figure = new int[4][5];
        final int[] link = new int[8];

        Base copy() {
            Base c = new Base();
            c.lead = lead;
            for (int i = 0; i < 4; i++) {
                c.level[i] = level[i];
                c.onHand[i] = onHand[i];
                c.reserve[i] = reserve[i];
                c.share[i] = share[i];
                c.rate[i] = rate[i];
                c.figure[i] = figure[i].clone();
            }
            System.arraycopy(link, 0, c.link, 0, 8);
            return c;
        }
    }

    static final class Net {
        final List<Base> sites = new ArrayList<>(List.of(new Base()));
        final List<int[]> items = new ArrayList<>();
        final List<Unit> units = new ArrayList<>();
        final List<Request> orders = new ArrayList<>();
        final List<Request> customers = new ArrayList<>();
        int limit;
        int day;
        int refused;
        long clock;

        Net copy() {
            Net c = new Net();
            c.sites.clear();
            for (Base b : sites) {
                c.sites.add(b.copy());
            }
            c.items.addAll(items);
            c.units.addAll(units);
            c.orders.addAll(orders);
            c.customers.addAll(customers);
            c.limit = limit;
            c.day = day;
            c.refused = refused;
            c.clock = clock;
            return c;
        }

        void put(int kind, int after, int item, int site, int owner, int link) {
            units.add(new Unit(kind, day + after, clock++, item, site, owner, link));
        }
    }

    private static final int DEMANDS = 0;
    private static final int FILLED = 1;
    private static final int DELAYS = 2;
    private static final int BACKORDER_DAYS = 3;
    private static final int HELPED = 4;

    Net net = new Net();
    private final Net[] saved = new Net[2];
    private String text = "";
    private int code = 0;
    private int position = NONE;

    private void index(boolean ok) {
        if (!ok) {
            throw new IndexOutOfBoundsException();
        }
    }

    private void argument(boolean ok) {
        if (!ok) {
            throw new IllegalArgumentException();
        }
    }

    private void state(boolean ok) {
        if (!ok) {
            throw new IllegalStateException();
        }
    }

    private boolean in(long v, long low, long high) {
        return low <= v && v <= high;
    }

    private void base(int b) {
        index(in(b, 1, net.sites.size() - 1));
    }

    private void site(int s) {
        index(in(s, 0, net.sites.size() - 1));
    }

    private void item(int i) {
        index(in(i, 0, net.items.size() - 1));
    }

    int addItem(int depotTime, int places, int localTime) {
        argument(in(depotTime, 1, 30) && in(places, 1, 5) && in(localTime, 1, 30));
        state(net.items.size() < 4);
        net.items.add(new int[] {depotTime, places, localTime});
        return net.items.size() - 1;
    }

    int addBase(int lead) {
        argument(in(lead, 1, 20));
        state(net.sites.size() < 8);
        Base b = new Base();
        b.lead = lead;
        net.sites.add(b);
        return net.sites.size() - 1;
    }

    int setLink(int a, int b, int lead) {
        base(a);
        base(b);
        argument(a != b && in(lead, 0, 20));
        int old = net.sites.get(a).link[b];
        net.sites.get(a).link[b] = lead;
        net.sites.get(b).link[a] = lead;
        return old;
    }

    int setLevel(int s, int i, int level) {
        site(s);
        item(i);
        argument(in(level, 0, 20));
        Base at = net.sites.get(s);
        int old = at.level[i];
        state(old - level <= at.onHand[i]);
        raise(net, s, i, level);
        return old;
    }

    private static void raise(Net n, int s, int i, int level) {
        Base at = n.sites.get(s);
        if (level < at.level[i]) {
            at.onHand[i] -= at.level[i] - level;
        }
        for (int k = at.level[i]; k < level; k++) {
            if (s == 0) {
                repaired(n, i);
            } else {
                comes(n, s, i);
            }
        }
        at.level[i] = level;
    }

    int setShare(int b, int i, int v) {
        base(b);
        item(i);
        argument(in(v, 0, 10));
        int old = net.sites.get(b).share[i];
        net.sites.get(b).share[i] = v;
        return old;
    }

    int setReserve(int b, int i, int v) {
        base(b);
        item(i);
        argument(in(v, 0, 20));
        int old = net.sites.get(b).reserve[i];
        net.sites.get(b).reserve[i] = v;
        return old;
    }

    int setRate(int b, int i, int v) {
        base(b);
        item(i);
        argument(in(v, 0, 100));
        int old = net.sites.get(b).rate[i];
        net.sites.get(b).rate[i] = v;
        return old;
    }

    int setLateralLimit(int v) {
        argument(in(v, 0, 20));
        int old = net.limit;
        net.limit = v;
        return old;
    }

    private static boolean refused(Net n) {
        return n.units.size() >= 200 || n.customers.size() >= 100;
    }

    private static boolean occur(Net n, int b, int i, int priority) {
        Base at = n.sites.get(b);
        int f = ++at.figure[i][DEMANDS];
        boolean local = (f * at.share[i]) / 10 > ((f - 1) * at.share[i]) / 10;
        boolean filled = at.onHand[i] > 0;
        int buyer = b;
        if (filled) {
            at.onHand[i]--;
            at.figure[i][FILLED]++;
        } else {
            n.customers.add(new Request(b, i, priority, n.day, n.clock++));
            List<Integer> helpers = new ArrayList<>();
            for (int o = 1; o < n.sites.size(); o++) {
                Base other = n.sites.get(o);
                if (o != b && at.link[o] != 0 && at.link[o] <= n.limit
                        && other.onHand[i] > other.reserve[i]) {
                    helpers.add(o);
                }
            }
            helpers.sort(Comparator.<Integer>comparingInt(o -> at.link[o])
                    .thenComparingInt(o -> -n.sites.get(o).onHand[i])
                    .thenComparingInt(o -> o));
            if (!helpers.isEmpty()) {
                buyer = helpers.get(0);
                n.sites.get(buyer).onHand[i]--;
                n.sites.get(buyer).figure[i][HELPED]++;
                n.put(3, at.link[buyer], i, b, b, 0);
            }
        }
        if (local) {
            n.put(1, n.items.get(i)[2], i, b, buyer, at.link[buyer]);
            return filled;
        }
        n.put(0, at.lead, i, 0, 0, 0);
        if (n.sites.get(0).onHand[i] > 0) {
            n.sites.get(0).onHand[i]--;
            n.put(2, n.sites.get(buyer).lead, i, buyer, buyer, 0);
        } else {
            n.orders.add(new Request(buyer, i, priority, n.day, n.clock++));
        }
        return filled;
    }

    boolean demand(int b, int i, int priority) {
        base(b);
        item(i);
        argument(in(priority, 0, 9));
        state(!refused(net));
        return occur(net, b, i, priority);
    }

    private static Request best(List<Request> of, int site, int item) {
        return of.stream().filter(r -> r.item() == item && (site == NONE || r.site() == site))
                .min(Comparator.<Request>comparingInt(r -> -r.priority())
                        .thenComparingLong(Request::came)).orElse(null);
    }

    private static void repaired(Net n, int i) {
        Request order = best(n.orders, NONE, i);
        if (order == null) {
            n.sites.get(0).onHand[i]++;
        } else {
            n.orders.remove(order);
            n.put(2, n.sites.get(order.site()).lead, i, order.site(), order.site(), 0);
        }
    }

    private static void comes(Net n, int b, int i) {
        Request customer = best(n.customers, b, i);
        if (customer == null) {
            n.sites.get(b).onHand[i]++;
        } else {
            n.customers.remove(customer);
            n.sites.get(b).figure[i][DELAYS] += n.day - customer.day();
        }
    }

    private static void beginDay(Net n) {
        n.day++;
        for (int kind = 0; kind <= 3; kind++) {
            int k = kind;
            List<Unit> now = new ArrayList<>(n.units.stream()
                    .filter(u -> u.kind() == k && u.due() == n.day)
                    .sorted(Comparator.comparingLong(Unit::came)).toList());
            for (Unit u : now) {
                n.units.remove(u);
                treat(n, u);
            }
        }
        for (Request c : n.customers) {
            n.sites.get(c.site()).figure[c.item()][BACKORDER_DAYS]++;
        }
    }

    private static void treat(Net n, Unit u) {
        int[] item = n.items.get(u.item());
        if (u.kind() == 0) {
            // The places are counted with those whose repair ends later on this very day.
            long busy = n.units.stream()
                    .filter(o -> o.kind() == 1 && o.site() == 0 && o.item() == u.item()).count();
            if (busy < item[1]) {
                n.put(1, item[0], u.item(), 0, 0, 0);
            } else {
                n.put(4, 0, u.item(), 0, 0, 0);
            }
        } else if (u.kind() == 1 && u.site() == 0) {
            Unit first = n.units.stream().filter(o -> o.kind() == 4 && o.item() == u.item())
                    .min(Comparator.comparingLong(Unit::came)).orElse(null);
            if (first != null) {
                n.units.remove(first);
                n.put(1, item[0], u.item(), 0, 0, 0);
            }
            repaired(n, u.item());
        } else if (u.kind() == 1 && u.owner() != u.site()) {
            int now = n.sites.get(u.site()).link[u.owner()];
            n.put(3, now == 0 ? u.link() : now, u.item(), u.owner(), u.owner(), 0);
        } else {
            comes(n, u.owner(), u.item());
        }
    }

    int advance(int days) {
        argument(in(days, 1, 60));
        state(net.day + days <= 9999);
        for (int d = 0; d < days; d++) {
            beginDay(net);
        }
        return net.day;
    }

    private static int runDays(Net n, int seed, int days) {
        BigInteger[] s = {BigInteger.valueOf(seed)};
        int taken = 0;
        for (int d = 0; d < days; d++) {
            beginDay(n);
            for (int b = 1; b < n.sites.size(); b++) {
                for (int i = 0; i < n.items.size(); i++) {
                    if (draw(s, 100) < n.sites.get(b).rate[i]) {
                        int priority = draw(s, 10);
                        if (refused(n)) {
                            n.refused++;
                        } else {
                            occur(n, b, i, priority);
                            taken++;
                        }
                    }
                }
            }
        }
        return taken;
    }

    private static int draw(BigInteger[] s, int m) {
        s[0] = s[0].multiply(BigInteger.valueOf(1103515245)).add(BigInteger.valueOf(12345))
                .mod(BigInteger.valueOf(2147483648L));
        return s[0].divide(BigInteger.valueOf(65536)).mod(BigInteger.valueOf(m)).intValue();
    }

    int run(int seed, int days) {
        argument(seed >= 0 && in(days, 1, 30));
        state(net.day + days <= 9999);
        return runDays(net, seed, days);
    }

    int level(int s, int i) {
        site(s);
        item(i);
        return net.sites.get(s).level[i];
    }

    int onHand(int s, int i) {
        site(s);
        item(i);
        return net.sites.get(s).onHand[i];
    }

    int waiting(int b, int i) {
        base(b);
        item(i);
        return (int) net.customers.stream().filter(c -> c.site() == b && c.item() == i).count();
    }

    int topPriority(int b, int i) {
        base(b);
        item(i);
        return net.customers.stream().filter(c -> c.site() == b && c.item() == i)
                .mapToInt(Request::priority).max().orElse(NONE);
    }

    int keptOrders(int i) {
        item(i);
        return (int) net.orders.stream().filter(o -> o.item() == i).count();
    }

    int dueIn(int b, int i) {
        base(b);
        item(i);
        return (int) net.units.stream().filter(u -> u.owner() == b && u.item() == i).count()
                + (int) net.orders.stream().filter(o -> o.site() == b && o.item() == i).count();
    }

    /** The document: this is always the level. */
    int position(int b, int i) {
        base(b);
        return level(b, i);
    }

    int underWay(int i, int kind) {
        item(i);
        argument(in(kind, 0, 4));
        return (int) net.units.stream().filter(u -> u.item() == i && u.kind() == kind).count();
    }

    /** The document: this is always the sum of the levels. */
    int fleet(int i) {
        item(i);
        return net.sites.stream().mapToInt(s -> s.level[i]).sum();
    }

    int nextArrival(int b, int i) {
        base(b);
        item(i);
        return net.units.stream().filter(u -> u.item() == i && u.owner() == b)
                .filter(u -> u.kind() == 2 || u.kind() == 3 || u.kind() == 1 && u.site() == b)
                .mapToInt(u -> u.due() - net.day).min().orElse(NONE);
    }

    List<Unit> dueUnits() {
        return net.units.stream().filter(u -> u.kind() != 4)
                .sorted(Comparator.comparingInt(Unit::due).thenComparingInt(Unit::kind)
                        .thenComparingLong(Unit::came)).toList();
    }

    int due(int which, int index) {
        List<Unit> units = dueUnits();
        index(in(index, 0, units.size() - 1));
        Unit u = units.get(index);
        return switch (which) {
            case 0 -> u.due();
            case 1 -> u.kind();
            case 2 -> u.item();
            case 3 -> u.site();
            default -> u.owner();
        };
    }

    private int figure(int which, int b, int i) {
        if (b != NONE) {
            base(b);
        }
        if (i != NONE) {
            item(i);
        }
        int sum = 0;
        for (int s = 1; s < net.sites.size(); s++) {
            for (int k = 0; k < net.items.size(); k++) {
                if ((b == NONE || b == s) && (i == NONE || i == k)) {
                    sum += net.sites.get(s).figure[k][which];
                }
            }
        }
        return sum;
    }

    int demands(int b, int i) {
        return figure(DEMANDS, b, i);
    }

    int fillNumerator(int b, int i) {
        int all = figure(DEMANDS, b, i);
        int filled = figure(FILLED, b, i);
        return all == 0 ? 0
                : filled / BigInteger.valueOf(all).gcd(BigInteger.valueOf(filled)).intValue();
    }

    int fillDenominator(int b, int i) {
        int all = figure(DEMANDS, b, i);
        int filled = figure(FILLED, b, i);
        return filled == 0 ? 1
                : all / BigInteger.valueOf(all).gcd(BigInteger.valueOf(filled)).intValue();
    }

    int delays(int b, int i) {
        return figure(DELAYS, b, i);
    }

    int backorderDays(int b, int i) {
        return figure(BACKORDER_DAYS, b, i);
    }

    int helped(int b, int i) {
        return figure(HELPED, b, i);
    }

    int bestSite(int i, int seed, int days) {
        item(i);
        argument(seed >= 0 && in(days, 1, 10));
        state(net.day + days <= 9999);
        int best = NONE;
        long fewest = Long.MAX_VALUE;
        for (int s = 0; s < net.sites.size(); s++) {
            if (net.sites.get(s).level[i] == 20) {
                continue;
            }
            Net trial = net.copy();
            raise(trial, s, i, trial.sites.get(s).level[i] + 1);
            runDays(trial, seed, days);
            long sum = 0;
            for (Base b : trial.sites) {
                for (int[] f : b.figure) {
                    sum += f[BACKORDER_DAYS];
                }
            }
            if (sum < fewest) {
                fewest = sum;
                best = s;
            }
        }
        return best;
    }

    int appendText(int four) {
        state(text.length() + 4 <= 500);
        for (int k = 3; k >= 0; k--) {
            text += (char) (four >> 8 * k & 255);
        }
        return text.length();
    }

    int truncateText(int length) {
        argument(in(length, 0, text.length()));
        text = text.substring(0, length);
        return length;
    }

    // ---- setup texts

    private static final Pattern TOKEN = Pattern.compile("[a-z]+|[0-9]+|;|.", Pattern.DOTALL);

    private record Wrong(int code, int position) {
    }

    private List<String> words;
    private List<Integer> places;
    private int at;

    int load() {
        words = new ArrayList<>();
        places = new ArrayList<>();
        Matcher m = TOKEN.matcher(text);
        while (m.find()) {
            if (!m.group().equals(" ") && !m.group().equals("\n")) {
                words.add(m.group());
                places.add(m.start());
            }
        }
        words.add("");
        places.add(text.length());
        text = "";
        at = 0;
        Net old = net;
        net = new Net();
        int statements = 0;
        Wrong wrong = null;
        while (wrong == null && !words.get(at).isEmpty()) {
            wrong = statement();
            statements++;
        }
        code = wrong == null ? 0 : wrong.code();
        position = wrong == null ? NONE : wrong.position();
        if (wrong != null) {
            net = old;
            return NONE;
        }
        return statements;
    }

    private Wrong statement() {
        String word = words.get(at);
        String form = switch (word) {
            case "item" -> "rpr";
            case "base" -> "l";
            case "level" -> "siv";
            case "link" -> "bol";
            case "share" -> "bih";
            case "reserve" -> "biv";
            case "rate" -> "bic";
            case "limit" -> "v";
            default -> null;
        };
        if (form == null) {
            return new Wrong(1, places.get(at));
        }
        if (word.equals("item") && net.items.size() == 4
                || word.equals("base") && net.sites.size() == 8) {
            return new Wrong(3, places.get(at));
        }
        int[] v = new int[3];
        for (int k = 0; k < form.length(); k++) {
            at++;
            if (!words.get(at).matches("[0-9]+")) {
                return new Wrong(1, places.get(at));
            }
            BigInteger n = new BigInteger(words.get(at));
            if (n.bitLength() > 30 || !fits(form.charAt(k), n.intValue(), v[0])) {
                return new Wrong(2, places.get(at));
            }
            v[k] = n.intValue();
        }
        at++;
        if (!words.get(at).equals(";")) {
            return new Wrong(1, places.get(at));
        }
        at++;
        switch (word) {
            case "item" -> addItem(v[0], v[1], v[2]);
            case "base" -> addBase(v[0]);
            case "level" -> setLevel(v[0], v[1], v[2]);
            case "link" -> setLink(v[0], v[1], v[2]);
            case "share" -> setShare(v[0], v[1], v[2]);
            case "reserve" -> setReserve(v[0], v[1], v[2]);
            case "rate" -> setRate(v[0], v[1], v[2]);
            default -> setLateralLimit(v[0]);
        }
        return null;
    }

    private boolean fits(char kind, int n, int first) {
        return switch (kind) {
            case 'r' -> in(n, 1, 30);
            case 'p' -> in(n, 1, 5);
            case 'l' -> in(n, 1, 20);
            case 's' -> n < net.sites.size();
            case 'b' -> in(n, 1, net.sites.size() - 1);
            case 'o' -> in(n, 1, net.sites.size() - 1) && n != first;
            case 'i' -> n < net.items.size();
            case 'h' -> n <= 10;
            case 'c' -> n <= 100;
            default -> n <= 20;
        };
    }

    int errorCode() {
        return code;
    }

    int errorPosition() {
        return position;
    }

    void save(int slot) {
        argument(in(slot, 0, 1));
        saved[slot] = net.copy();
    }

    void restore(int slot) {
        argument(in(slot, 0, 1));
        state(saved[slot] != null);
        net = saved[slot].copy();
    }
}
