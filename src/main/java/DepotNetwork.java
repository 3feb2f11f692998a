import java.util.Arrays;

/**
 * A simulator of a repairable spare-parts network: a depot and bases with base-stock levels,
 * one-for-one replenishment, local and central repair, shipments with lead times, lateral
 * transshipment between bases, and backorders with priorities.
 */
public final class DepotNetwork {
    /** There is none; in some methods: all of them. */
    public static final int NONE = -1;

    private static final int DEPOT = 0;
    private static final int MAX_SITES = 8;
    private static final int MAX_ITEMS = 4;
    private static final int CELLS = MAX_SITES * MAX_ITEMS;
    private static final int SLOTS = 2;

    private static final int MAX_REPAIR_TIME = 30;
    private static final int MAX_PLACES = 5;
    private static final int MAX_LEAD_TIME = 20;
    private static final int MAX_LEVEL = 20;
    private static final int MAX_RESERVE = 20;
    private static final int MAX_SHARE = 10;
    private static final int MAX_RATE = 100;
    private static final int MAX_LIMIT = 20;
    private static final int MAX_PRIORITY = 9;
    private static final int MAX_DAY = 9999;
    private static final int MAX_SEED = 2147483647;
    private static final int MAX_ADVANCE = 60;
    private static final int MAX_RUN = 30;
    private static final int MAX_TRIAL = 10;

    private static final int RETURN = 0;
    private static final int REPAIR = 1;
    private static final int SUPPLY = 2;
    private static final int LATERAL = 3;
    private static final int WAITING = 4;

    private static final int REFUSING_UNITS = 200;
    private static final int REFUSING_CUSTOMERS = 100;

    // A demand needs fewer than 200 units under way and adds at most 3; beyond that, only units
    // bought for the depot (20 of each of 4 items) can go to kept orders: 282 at the most.
    // The kept orders are never more than the units under way that the depot owns.
    private static final int ROW_LENGTH = 300;

    private Network network;
    private Network scratch;
    private final Network[] saved;
    private final SetupText text;

    public DepotNetwork() {
        network = new Network();
        scratch = new Network();
        saved = new Network[SLOTS];
        text = new SetupText();
    }

    // ---- the network

    public int addItem(int depotTime, int places, int localTime)
            throws IllegalArgumentException, IllegalStateException {
        checkRange(depotTime, 1, MAX_REPAIR_TIME);
        checkRange(places, 1, MAX_PLACES);
        checkRange(localTime, 1, MAX_REPAIR_TIME);
        if (network.setup.items >= MAX_ITEMS) {
            throw new IllegalStateException("there are 4 items");
        }
        return network.setup.newItem(depotTime, places, localTime);
    }

    public int addBase(int leadTime) throws IllegalArgumentException, IllegalStateException {
        checkRange(leadTime, 1, MAX_LEAD_TIME);
        if (network.setup.sites >= MAX_SITES) {
            throw new IllegalStateException("there are 7 bases");
        }
        return network.setup.newBase(leadTime);
    }

    public int itemCount() {
        return network.setup.items;
    }

    public int siteCount() {
        return network.setup.sites;
    }

    public int setLink(int base, int other, int leadTime)
            throws IndexOutOfBoundsException, IllegalArgumentException {
        checkBase(base);
        checkBase(other);
        if (base == other) {
            throw new IllegalArgumentException("a base is not linked to itself");
        }
        checkRange(leadTime, 0, MAX_LEAD_TIME);
        int previous = network.setup.linkTime(base, other);
        network.setup.join(base, other, leadTime);
        return previous;
    }

    public int setLevel(int site, int item, int level)
            throws IndexOutOfBoundsException, IllegalArgumentException, IllegalStateException {
        checkSite(site);
        checkItem(item);
        checkRange(level, 0, MAX_LEVEL);
        int cell = cell(site, item);
        int previous = network.level[cell];
        if (previous - level > network.onHand[cell]) {
            throw new IllegalStateException("more units would be sold than are on hand");
        }
        network.changeLevel(site, item, level);
        return previous;
    }

    public int setShare(int base, int item, int share)
            throws IndexOutOfBoundsException, IllegalArgumentException {
        checkBase(base);
        checkItem(item);
        checkRange(share, 0, MAX_SHARE);
        return exchange(network.setup.share, cell(base, item), share);
    }

    public int setReserve(int base, int item, int reserve)
            throws IndexOutOfBoundsException, IllegalArgumentException {
        checkBase(base);
        checkItem(item);
        checkRange(reserve, 0, MAX_RESERVE);
        return exchange(network.setup.reserve, cell(base, item), reserve);
    }

    public int setRate(int base, int item, int rate)
            throws IndexOutOfBoundsException, IllegalArgumentException {
        checkBase(base);
        checkItem(item);
        checkRange(rate, 0, MAX_RATE);
        return exchange(network.setup.rate, cell(base, item), rate);
    }

    public int setLateralLimit(int days) throws IllegalArgumentException {
        checkRange(days, 0, MAX_LIMIT);
        int previous = network.setup.lateralLimit;
        network.setup.lateralLimit = days;
        return previous;
    }

    // ---- what happens

    public boolean demand(int base, int item, int priority)
            throws IndexOutOfBoundsException, IllegalArgumentException, IllegalStateException {
        checkBase(base);
        checkItem(item);
        checkRange(priority, 0, MAX_PRIORITY);
        if (network.refuses()) {
            throw new IllegalStateException("the demand is refused");
        }
        return network.occur(base, item, priority);
    }

    public int advance(int days) throws IllegalArgumentException, IllegalStateException {
        checkRange(days, 1, MAX_ADVANCE);
        checkLastDay(days);
        for (int passed = 0; passed < days; passed++) {
            network.beginDay();
        }
        return network.day;
    }

    public int run(int seed, int days) throws IllegalArgumentException, IllegalStateException {
        checkRange(seed, 0, MAX_SEED);
        checkRange(days, 1, MAX_RUN);
        checkLastDay(days);
        return network.runDays(seed, days);
    }

    public int day() {
        return network.day;
    }

    public int refusedDemands() {
        return network.figures.refused;
    }

    // ---- stocks

    public int level(int site, int item) throws IndexOutOfBoundsException {
        checkSite(site);
        checkItem(item);
        return network.level[cell(site, item)];
    }

    public int onHand(int site, int item) throws IndexOutOfBoundsException {
        checkSite(site);
        checkItem(item);
        return network.onHand[cell(site, item)];
    }

    public int waiting(int base, int item) throws IndexOutOfBoundsException {
        checkBase(base);
        checkItem(item);
        return network.customers.countOf(base, item);
    }

    public int topPriority(int base, int item) throws IndexOutOfBoundsException {
        checkBase(base);
        checkItem(item);
        int first = network.customers.firstOf(base, item);
        return first == NONE ? NONE : network.customers.priority[first];
    }

    public int keptOrders(int item) throws IndexOutOfBoundsException {
        checkItem(item);
        return network.orders.countOf(NONE, item);
    }

    public int dueIn(int base, int item) throws IndexOutOfBoundsException {
        checkBase(base);
        checkItem(item);
        return network.expected(base, item);
    }

    public int position(int base, int item) throws IndexOutOfBoundsException {
        checkBase(base);
        checkItem(item);
        return network.onHand[cell(base, item)] + network.expected(base, item)
                - network.customers.countOf(base, item);
    }

    public int underWay(int item, int kind)
            throws IndexOutOfBoundsException, IllegalArgumentException {
        checkItem(item);
        checkRange(kind, 0, WAITING);
        return network.countKind(item, kind);
    }

    public int fleet(int item) throws IndexOutOfBoundsException {
        checkItem(item);
        int units = 0;
        for (int site = 0; site < network.setup.sites; site++) {
            units += network.onHand[cell(site, item)];
        }
        for (int kind = RETURN; kind <= WAITING; kind++) {
            units += network.countKind(item, kind);
        }
        return units - network.customers.countOf(NONE, item);
    }

    public int nextArrival(int base, int item) throws IndexOutOfBoundsException {
        checkBase(base);
        checkItem(item);
        int unit = network.units.firstArrival(base, item);
        return unit == NONE ? NONE : network.units.day[unit] - network.day;
    }

    // ---- units with a due day

    public int dueCount() {
        return network.units.count;
    }

    public int dueDay(int index) throws IndexOutOfBoundsException {
        checkUnit(index);
        return network.units.day[index];
    }

    public int dueKind(int index) throws IndexOutOfBoundsException {
        checkUnit(index);
        return network.units.kind[index];
    }

    public int dueItem(int index) throws IndexOutOfBoundsException {
        checkUnit(index);
        return network.units.item[index];
    }

    public int dueSite(int index) throws IndexOutOfBoundsException {
        checkUnit(index);
        return network.units.site[index];
    }

    public int dueOwner(int index) throws IndexOutOfBoundsException {
        checkUnit(index);
        return network.units.owner[index];
    }

    // ---- figures

    public int demands(int base, int item) throws IndexOutOfBoundsException {
        checkFigure(base, item);
        return network.total(network.figures.demands, base, item);
    }

    public int fillNumerator(int base, int item) throws IndexOutOfBoundsException {
        checkFigure(base, item);
        int filled = network.total(network.figures.filled, base, item);
        if (filled == 0) {
            return 0;
        }
        return filled / commonDivisor(network.total(network.figures.demands, base, item), filled);
    }

    public int fillDenominator(int base, int item) throws IndexOutOfBoundsException {
        checkFigure(base, item);
        int filled = network.total(network.figures.filled, base, item);
        if (filled == 0) {
            return 1;
        }
        int all = network.total(network.figures.demands, base, item);
        return all / commonDivisor(all, filled);
    }

    public int delays(int base, int item) throws IndexOutOfBoundsException {
        checkFigure(base, item);
        return network.total(network.figures.delays, base, item);
    }

    public int backorderDays(int base, int item) throws IndexOutOfBoundsException {
        checkFigure(base, item);
        return network.total(network.figures.backorderDays, base, item);
    }

    public int helped(int base, int item) throws IndexOutOfBoundsException {
        checkFigure(base, item);
        return network.total(network.figures.helped, base, item);
    }

    public int bestSite(int item, int seed, int days)
            throws IndexOutOfBoundsException, IllegalArgumentException, IllegalStateException {
        checkItem(item);
        checkRange(seed, 0, MAX_SEED);
        checkRange(days, 1, MAX_TRIAL);
        checkLastDay(days);
        int best = NONE;
        int fewest = 0;
        for (int site = 0; site < network.setup.sites; site++) {
            if (network.level[cell(site, item)] < MAX_LEVEL) {
                scratch.copyFrom(network);
                scratch.changeLevel(site, item, scratch.level[cell(site, item)] + 1);
                scratch.runDays(seed, days);
                int found = scratch.total(scratch.figures.backorderDays, NONE, NONE);
                if (best == NONE || found < fewest) {
                    best = site;
                    fewest = found;
                }
            }
        }
        return best;
    }

    // ---- setup texts

    public int appendText(int fourBytes) throws IllegalStateException {
        if (text.isFull()) {
            throw new IllegalStateException("the text would be longer than 500 bytes");
        }
        text.append(fourBytes);
        return text.length;
    }

    public int truncateText(int length) throws IllegalArgumentException {
        checkRange(length, 0, text.length);
        text.length = length;
        return length;
    }

    public int load() {
        scratch.clear();
        int statements = text.read(scratch);
        text.length = 0;
        if (statements != NONE) {
            Network replaced = network;
            network = scratch;
            scratch = replaced;
        }
        return statements;
    }

    public int errorCode() {
        return text.wrongCode;
    }

    public int errorPosition() {
        return text.wrongPosition;
    }

    // ---- saved states

    public void save(int slot) throws IllegalArgumentException {
        checkRange(slot, 0, SLOTS - 1);
        Network kept = saved[slot];
        if (kept == null) {
            kept = new Network();
            saved[slot] = kept;
        }
        kept.copyFrom(network);
    }

    public void restore(int slot) throws IllegalArgumentException, IllegalStateException {
        checkRange(slot, 0, SLOTS - 1);
        Network kept = saved[slot];
        if (kept == null) {
            throw new IllegalStateException("nothing is saved there");
        }
        network.copyFrom(kept);
    }

    // ---- what the methods above share

    private void checkSite(int site) {
        if (!network.setup.isSite(site)) {
            throw new IndexOutOfBoundsException("no such site");
        }
    }

    private void checkBase(int base) {
        if (!network.setup.isBase(base)) {
            throw new IndexOutOfBoundsException("no such base");
        }
    }

    private void checkItem(int item) {
        if (!network.setup.isItem(item)) {
            throw new IndexOutOfBoundsException("no such item");
        }
    }

    private void checkFigure(int base, int item) {
        if (base != NONE) {
            checkBase(base);
        }
        if (item != NONE) {
            checkItem(item);
        }
    }

    private void checkUnit(int index) {
        if (index < 0 || index >= network.units.count) {
            throw new IndexOutOfBoundsException("no such unit");
        }
    }

    private void checkLastDay(int days) {
        if (network.day + days > MAX_DAY) {
            throw new IllegalStateException("the present day would be greater than 9999");
        }
    }

    private static void checkRange(int value, int low, int high) {
        if (!within(value, low, high)) {
            throw new IllegalArgumentException("an argument is out of range");
        }
    }

    private static int exchange(int[] row, int at, int value) {
        int previous = row[at];
        row[at] = value;
        return previous;
    }

    private static int cell(int site, int item) {
        return site * MAX_ITEMS + item;
    }

    private static boolean within(int value, int low, int high) {
        return value >= low && value <= high;
    }

    private static int commonDivisor(int larger, int smaller) {
        int a = larger;
        int b = smaller;
        // Euclid needs fewer than 64 steps for any two ints.
        for (int step = 0; step < 64 && b != 0; step++) {
            int rest = a % b;
            a = b;
            b = rest;
        }
        return a == 0 ? 1 : a;
    }

    private static void copyRow(int[] from, int[] to, int count) {
        System.arraycopy(from, 0, to, 0, count);
    }

    /** What is set and does not change by itself. */
    private static final class Setup {
        int items;
        int sites;
        int lateralLimit;
        final int[] depotTime;
        final int[] places;
        final int[] localTime;
        final int[] leadTime;
        final int[] link;
        final int[] reserve;
        final int[] share;
        final int[] rate;

        Setup() {
            sites = 1;
            depotTime = new int[MAX_ITEMS];
            places = new int[MAX_ITEMS];
            localTime = new int[MAX_ITEMS];
            leadTime = new int[MAX_SITES];
            link = new int[MAX_SITES * MAX_SITES];
            reserve = new int[CELLS];
            share = new int[CELLS];
            rate = new int[CELLS];
        }

        void clear() {
            items = 0;
            sites = 1;
            lateralLimit = 0;
            Arrays.fill(link, 0);
            Arrays.fill(reserve, 0);
            Arrays.fill(share, 0);
            Arrays.fill(rate, 0);
        }

        void copyFrom(Setup other) {
            items = other.items;
            sites = other.sites;
            lateralLimit = other.lateralLimit;
            copyRow(other.depotTime, depotTime, MAX_ITEMS);
            copyRow(other.places, places, MAX_ITEMS);
            copyRow(other.localTime, localTime, MAX_ITEMS);
            copyRow(other.leadTime, leadTime, MAX_SITES);
            copyRow(other.link, link, MAX_SITES * MAX_SITES);
            copyRow(other.reserve, reserve, CELLS);
            copyRow(other.share, share, CELLS);
            copyRow(other.rate, rate, CELLS);
        }

        boolean isSite(int site) {
            return site >= DEPOT && site < sites;
        }

        boolean isBase(int site) {
            return site > DEPOT && site < sites;
        }

        boolean isItem(int item) {
            return item >= 0 && item < items;
        }

        int newItem(int depot, int placeCount, int local) {
            if (items >= MAX_ITEMS) {
                return NONE;
            }
            depotTime[items] = depot;
            places[items] = placeCount;
            localTime[items] = local;
            items++;
            return items - 1;
        }

        int newBase(int lead) {
            if (sites >= MAX_SITES) {
                return NONE;
            }
            leadTime[sites] = lead;
            sites++;
            return sites - 1;
        }

        int linkTime(int base, int other) {
            return link[base * MAX_SITES + other];
        }

        void join(int base, int other, int lead) {
            link[base * MAX_SITES + other] = lead;
            link[other * MAX_SITES + base] = lead;
        }
    }

    /** What has been counted for each base and item. */
    private static final class Figures {
        int refused;
        final int[] demands;
        final int[] filled;
        final int[] delays;
        final int[] backorderDays;
        final int[] helped;

        Figures() {
            demands = new int[CELLS];
            filled = new int[CELLS];
            delays = new int[CELLS];
            backorderDays = new int[CELLS];
            helped = new int[CELLS];
        }

        void clear() {
            refused = 0;
            Arrays.fill(demands, 0);
            Arrays.fill(filled, 0);
            Arrays.fill(delays, 0);
            Arrays.fill(backorderDays, 0);
            Arrays.fill(helped, 0);
        }

        void copyFrom(Figures other) {
            refused = other.refused;
            copyRow(other.demands, demands, CELLS);
            copyRow(other.filled, filled, CELLS);
            copyRow(other.delays, delays, CELLS);
            copyRow(other.backorderDays, backorderDays, CELLS);
            copyRow(other.helped, helped, CELLS);
        }
    }

    /** The units with a due day, always in the order in which they will be treated. */
    private static final class UnitRow {
        int count;
        final int[] day;
        final int[] kind;
        final int[] item;
        final int[] site;
        final int[] owner;
        // The lead time of the link between site and owner when the demand occurred.
        final int[] oldLink;

        UnitRow() {
            day = new int[ROW_LENGTH];
            kind = new int[ROW_LENGTH];
            item = new int[ROW_LENGTH];
            site = new int[ROW_LENGTH];
            owner = new int[ROW_LENGTH];
            oldLink = new int[ROW_LENGTH];
        }

        void copyFrom(UnitRow other) {
            count = other.count;
            copyRow(other.day, day, count);
            copyRow(other.kind, kind, count);
            copyRow(other.item, item, count);
            copyRow(other.site, site, count);
            copyRow(other.owner, owner, count);
            copyRow(other.oldLink, oldLink, count);
        }

        // Its place is behind all units of the same day and kind, which came into it before.
        void add(int dueOn, int newKind, int newItem, int newSite, int newOwner, int newLink) {
            if (count >= ROW_LENGTH) {
                return;
            }
            int at = count;
            while (at > 0 && (day[at - 1] > dueOn
                    || (day[at - 1] == dueOn && kind[at - 1] > newKind))) {
                move(at - 1, at);
                at--;
            }
            day[at] = dueOn;
            kind[at] = newKind;
            item[at] = newItem;
            site[at] = newSite;
            owner[at] = newOwner;
            oldLink[at] = newLink;
            count++;
        }

        private void move(int from, int to) {
            day[to] = day[from];
            kind[to] = kind[from];
            item[to] = item[from];
            site[to] = site[from];
            owner[to] = owner[from];
            oldLink[to] = oldLink[from];
        }

        void removeFirst() {
            if (count <= 0) {
                return;
            }
            count--;
            for (int i = 0; i < count; i++) {
                move(i + 1, i);
            }
        }

        int countKind(int ofItem, int ofKind) {
            int found = 0;
            for (int i = 0; i < count; i++) {
                if (item[i] == ofItem && kind[i] == ofKind) {
                    found++;
                }
            }
            return found;
        }

        int countOwned(int bySite, int ofItem) {
            int found = 0;
            for (int i = 0; i < count; i++) {
                if (owner[i] == bySite && item[i] == ofItem) {
                    found++;
                }
            }
            return found;
        }

        int countDepotRepairs(int ofItem) {
            int found = 0;
            for (int i = 0; i < count; i++) {
                if (kind[i] == REPAIR && site[i] == DEPOT && item[i] == ofItem) {
                    found++;
                }
            }
            return found;
        }

        // A unit that a base repairs for another base has still to be sent: site and owner differ.
        int firstArrival(int base, int ofItem) {
            for (int i = 0; i < count; i++) {
                if (owner[i] == base && site[i] == base && item[i] == ofItem) {
                    return i;
                }
            }
            return NONE;
        }
    }

    /** Customers, kept orders, or units that wait for a repair place, in the order they came. */
    private static final class QueueRow {
        int count;
        final int[] site;
        final int[] item;
        final int[] priority;
        final int[] since;

        QueueRow() {
            site = new int[ROW_LENGTH];
            item = new int[ROW_LENGTH];
            priority = new int[ROW_LENGTH];
            since = new int[ROW_LENGTH];
        }

        void copyFrom(QueueRow other) {
            count = other.count;
            copyRow(other.site, site, count);
            copyRow(other.item, item, count);
            copyRow(other.priority, priority, count);
            copyRow(other.since, since, count);
        }

        void add(int newSite, int newItem, int newPriority, int day) {
            if (count >= ROW_LENGTH) {
                return;
            }
            site[count] = newSite;
            item[count] = newItem;
            priority[count] = newPriority;
            since[count] = day;
            count++;
        }

        void remove(int index) {
            if (index < 0 || index >= count) {
                return;
            }
            count--;
            for (int i = index; i < count; i++) {
                site[i] = site[i + 1];
                item[i] = item[i + 1];
                priority[i] = priority[i + 1];
                since[i] = since[i + 1];
            }
        }

        int countOf(int atSite, int ofItem) {
            int found = 0;
            for (int i = 0; i < count; i++) {
                if (item[i] == ofItem && (atSite == NONE || site[i] == atSite)) {
                    found++;
                }
            }
            return found;
        }

        /** Answers the one with the highest priority, of equal ones the earliest. */
        int firstOf(int atSite, int ofItem) {
            int first = NONE;
            for (int i = 0; i < count; i++) {
                if (item[i] == ofItem && (atSite == NONE || site[i] == atSite)
                        && (first == NONE || priority[i] > priority[first])) {
                    first = i;
                }
            }
            return first;
        }
    }

    private static final class Generator {
        private long state;

        void start(int seed) {
            state = seed;
        }

        int draw(int choices) {
            state = (state * 1103515245L + 12345L) % 2147483648L;
            return choices < 1 ? 0 : (int) (state / 65536L % choices);
        }
    }

    /** The whole state that can be saved, tried out and replaced. */
    private static final class Network {
        int day;
        final int[] level;
        final int[] onHand;
        final Setup setup;
        final Figures figures;
        final UnitRow units;
        final QueueRow waitingUnits;
        final QueueRow orders;
        final QueueRow customers;
        private final Generator generator;

        Network() {
            level = new int[CELLS];
            onHand = new int[CELLS];
            setup = new Setup();
            figures = new Figures();
            units = new UnitRow();
            waitingUnits = new QueueRow();
            orders = new QueueRow();
            customers = new QueueRow();
            generator = new Generator();
        }

        void clear() {
            day = 0;
            Arrays.fill(level, 0);
            Arrays.fill(onHand, 0);
            setup.clear();
            figures.clear();
            units.count = 0;
            waitingUnits.count = 0;
            orders.count = 0;
            customers.count = 0;
        }

        void copyFrom(Network other) {
            day = other.day;
            copyRow(other.level, level, CELLS);
            copyRow(other.onHand, onHand, CELLS);
            setup.copyFrom(other.setup);
            figures.copyFrom(other.figures);
            units.copyFrom(other.units);
            waitingUnits.copyFrom(other.waitingUnits);
            orders.copyFrom(other.orders);
            customers.copyFrom(other.customers);
        }

        int countKind(int item, int kind) {
            return kind == WAITING
                    ? waitingUnits.countOf(DEPOT, item) : units.countKind(item, kind);
        }

        int expected(int base, int item) {
            return units.countOwned(base, item) + orders.countOf(base, item);
        }

        int total(int[] figure, int base, int item) {
            int firstBase = base == NONE ? DEPOT + 1 : base;
            int lastBase = base == NONE ? setup.sites - 1 : base;
            int firstItem = item == NONE ? 0 : item;
            int lastItem = item == NONE ? setup.items - 1 : item;
            int sum = 0;
            for (int b = firstBase; b <= lastBase; b++) {
                for (int i = firstItem; i <= lastItem; i++) {
                    sum += figure[cell(b, i)];
                }
            }
            return sum;
        }

        void changeLevel(int site, int item, int newLevel) {
            int cell = cell(site, item);
            int bought = newLevel - level[cell];
            level[cell] = newLevel;
            if (bought < 0) {
                onHand[cell] += bought;
            }
            for (int unit = 0; unit < bought; unit++) {
                if (site == DEPOT) {
                    stockDepot(item);
                } else {
                    stockBase(site, item);
                }
            }
        }

        boolean refuses() {
            return units.count + waitingUnits.count >= REFUSING_UNITS
                    || customers.count >= REFUSING_CUSTOMERS;
        }

        /** Lets a demand occur that is not refused; answers whether it is filled at once. */
        boolean occur(int base, int item, int priority) {
            int cell = cell(base, item);
            figures.demands[cell]++;
            boolean local = isRepairedLocally(figures.demands[cell], setup.share[cell]);
            boolean filled = onHand[cell] > 0;
            int buyer = base;
            if (filled) {
                onHand[cell]--;
                figures.filled[cell]++;
            } else {
                customers.add(base, item, priority, day);
                int helper = findHelper(base, item);
                if (helper != NONE) {
                    sendHelp(helper, base, item);
                    buyer = helper;
                }
            }
            if (local) {
                units.add(day + setup.localTime[item], REPAIR, item, base, buyer,
                        setup.linkTime(base, buyer));
            } else {
                units.add(day + setup.leadTime[base], RETURN, item, DEPOT, DEPOT, 0);
                order(buyer, item, priority);
            }
            return filled;
        }

        private static boolean isRepairedLocally(int number, int share) {
            return number * share / 10 > (number - 1) * share / 10;
        }

        private void sendHelp(int helper, int base, int item) {
            onHand[cell(helper, item)]--;
            figures.helped[cell(helper, item)]++;
            units.add(day + setup.linkTime(base, helper), LATERAL, item, base, base, 0);
        }

        private int findHelper(int base, int item) {
            int best = NONE;
            for (int other = DEPOT + 1; other < setup.sites; other++) {
                if (canHelp(other, base, item)
                        && (best == NONE || helpsBetter(other, best, base, item))) {
                    best = other;
                }
            }
            return best;
        }

        // No base is linked to itself: its own link time is always 0.
        private boolean canHelp(int other, int base, int item) {
            int lead = setup.linkTime(base, other);
            int cell = cell(other, item);
            return lead > 0 && lead <= setup.lateralLimit && onHand[cell] > setup.reserve[cell];
        }

        private boolean helpsBetter(int other, int best, int base, int item) {
            int lead = setup.linkTime(base, other);
            int bestLead = setup.linkTime(base, best);
            if (lead != bestLead) {
                return lead < bestLead;
            }
            return onHand[cell(other, item)] > onHand[cell(best, item)];
        }

        private void order(int buyer, int item, int priority) {
            int cell = cell(DEPOT, item);
            if (onHand[cell] > 0) {
                onHand[cell]--;
                units.add(day + setup.leadTime[buyer], SUPPLY, item, buyer, buyer, 0);
            } else {
                orders.add(buyer, item, priority, day);
            }
        }

        private void stockDepot(int item) {
            int first = orders.firstOf(NONE, item);
            if (first == NONE) {
                onHand[cell(DEPOT, item)]++;
                return;
            }
            int buyer = orders.site[first];
            orders.remove(first);
            units.add(day + setup.leadTime[buyer], SUPPLY, item, buyer, buyer, 0);
        }

        private void stockBase(int base, int item) {
            int cell = cell(base, item);
            int first = customers.firstOf(base, item);
            if (first == NONE) {
                onHand[cell]++;
                return;
            }
            figures.delays[cell] += day - customers.since[first];
            customers.remove(first);
        }

        // What is treated comes into its next state for a later day, so each unit has one turn.
        void beginDay() {
            day++;
            int most = units.count;
            for (int turn = 0; turn < most && units.count > 0 && units.day[0] <= day; turn++) {
                treatFirst();
            }
            for (int i = 0; i < customers.count; i++) {
                figures.backorderDays[cell(customers.site[i], customers.item[i])]++;
            }
        }

        private void treatFirst() {
            int kind = units.kind[0];
            int item = units.item[0];
            int site = units.site[0];
            int owner = units.owner[0];
            int oldLink = units.oldLink[0];
            units.removeFirst();
            if (kind == RETURN) {
                endReturn(item);
            } else if (site == DEPOT) {
                freePlace(item);
                stockDepot(item);
            } else if (site != owner) {
                int lead = setup.linkTime(site, owner);
                units.add(day + (lead > 0 ? lead : oldLink), LATERAL, item, owner, owner, 0);
            } else {
                stockBase(owner, item);
            }
        }

        private void endReturn(int item) {
            if (units.countDepotRepairs(item) < setup.places[item]) {
                units.add(day + setup.depotTime[item], REPAIR, item, DEPOT, DEPOT, 0);
            } else {
                waitingUnits.add(DEPOT, item, 0, day);
            }
        }

        private void freePlace(int item) {
            int first = waitingUnits.firstOf(DEPOT, item);
            if (first != NONE) {
                waitingUnits.remove(first);
                units.add(day + setup.depotTime[item], REPAIR, item, DEPOT, DEPOT, 0);
            }
        }

        /** Answers how many demands were not refused. */
        int runDays(int seed, int days) {
            generator.start(seed);
            int taken = 0;
            for (int passed = 0; passed < days; passed++) {
                beginDay();
                for (int base = DEPOT + 1; base < setup.sites; base++) {
                    for (int item = 0; item < setup.items; item++) {
                        taken += drawDemand(base, item);
                    }
                }
            }
            return taken;
        }

        private int drawDemand(int base, int item) {
            if (generator.draw(100) >= setup.rate[cell(base, item)]) {
                return 0;
            }
            int priority = generator.draw(MAX_PRIORITY + 1);
            if (refuses()) {
                figures.refused++;
                return 0;
            }
            occur(base, item, priority);
            return 1;
        }
    }

    /** The text buffer, and the parser that reads it as a setup. */
    private static final class SetupText {
        private static final int MAX_LENGTH = 500;
        private static final int MAX_ARGUMENTS = 3;

        private static final int NOT_ALLOWED = 1;
        private static final int OUT_OF_RANGE = 2;
        private static final int TOO_MANY = 3;

        private static final int END = 0;
        private static final int WORD = 1;
        private static final int NUMBER = 2;
        private static final int SEMICOLON = 3;
        private static final int NO_TOKEN = 4;

        private static final int ITEM = 0;
        private static final int BASE = 1;
        private static final int LEVEL = 2;
        private static final int LINK = 3;
        private static final int SHARE = 4;
        private static final int RESERVE = 5;
        private static final int RATE = 6;
        private static final int LIMIT = 7;

        // Above every range, and small enough to stay an int when a digit is added.
        private static final int LARGE_NUMBER = 1000;

        int length;
        int wrongCode;
        int wrongPosition;
        private final byte[] bytes;
        private final int[] argument;
        private int next;
        private int tokenKind;
        private int tokenStart;
        private int number;

        SetupText() {
            bytes = new byte[MAX_LENGTH];
            argument = new int[MAX_ARGUMENTS];
            wrongPosition = NONE;
        }

        boolean isFull() {
            return length + 4 > MAX_LENGTH;
        }

        void append(int fourBytes) {
            if (isFull()) {
                return;
            }
            for (int shift = 24; shift >= 0; shift -= 8) {
                bytes[length] = (byte) (fourBytes >>> shift);
                length++;
            }
        }

        /** Answers the number of statements, or NONE if the text has an error. */
        int read(Network target) {
            wrongCode = 0;
            wrongPosition = NONE;
            next = 0;
            nextToken();
            // A statement has more than one byte, so the text ends within so many turns.
            for (int statements = 0; statements <= length; statements++) {
                if (tokenKind == END) {
                    return statements;
                }
                int statement = readStatement(target.setup);
                if (statement == NONE) {
                    return NONE;
                }
                apply(statement, target);
            }
            return NONE;
        }

        /** Answers which statement it is, or NONE if one of its tokens is wrong. */
        private int readStatement(Setup setup) {
            int statement = findStatement();
            if (statement == NONE) {
                return fail(NOT_ALLOWED);
            }
            if ((statement == ITEM && setup.items >= MAX_ITEMS)
                    || (statement == BASE && setup.sites >= MAX_SITES)) {
                return fail(TOO_MANY);
            }
            nextToken();
            int count = statement == BASE || statement == LIMIT ? 1 : MAX_ARGUMENTS;
            for (int index = 0; index < count; index++) {
                if (tokenKind != NUMBER) {
                    return fail(NOT_ALLOWED);
                }
                if (!isInRange(statement, index, setup)) {
                    return fail(OUT_OF_RANGE);
                }
                argument[index] = number;
                nextToken();
            }
            if (tokenKind != SEMICOLON) {
                return fail(NOT_ALLOWED);
            }
            nextToken();
            return statement;
        }

        private int fail(int code) {
            wrongCode = code;
            wrongPosition = tokenStart;
            return NONE;
        }

        private int findStatement() {
            if (tokenKind != WORD) {
                return NONE;
            }
            if (wordIs("item")) {
                return ITEM;
            } else if (wordIs("base")) {
                return BASE;
            } else if (wordIs("level")) {
                return LEVEL;
            } else if (wordIs("link")) {
                return LINK;
            } else if (wordIs("share")) {
                return SHARE;
            } else if (wordIs("reserve")) {
                return RESERVE;
            } else if (wordIs("rate")) {
                return RATE;
            } else if (wordIs("limit")) {
                return LIMIT;
            }
            return NONE;
        }

        private boolean wordIs(String word) {
            if (next - tokenStart != word.length()) {
                return false;
            }
            for (int i = 0; i < word.length(); i++) {
                if (bytes[tokenStart + i] != word.charAt(i)) {
                    return false;
                }
            }
            return true;
        }

        private boolean isInRange(int statement, int index, Setup setup) {
            switch (statement) {
                case ITEM:
                    return within(number, 1, index == 1 ? MAX_PLACES : MAX_REPAIR_TIME);
                case BASE:
                    return within(number, 1, MAX_LEAD_TIME);
                case LINK:
                    return isLinkArgument(index, setup);
                case LIMIT:
                    return within(number, 0, MAX_LIMIT);
                default:
                    return isCellArgument(statement, index, setup);
            }
        }

        private boolean isLinkArgument(int index, Setup setup) {
            if (index == 2) {
                return within(number, 1, MAX_LEAD_TIME);
            }
            return setup.isBase(number) && (index == 0 || number != argument[0]);
        }

        private boolean isCellArgument(int statement, int index, Setup setup) {
            if (index == 0) {
                return statement == LEVEL ? setup.isSite(number) : setup.isBase(number);
            }
            return index == 1 ? setup.isItem(number) : within(number, 0, mostOf(statement));
        }

        private static int mostOf(int statement) {
            switch (statement) {
                case LEVEL:
                    return MAX_LEVEL;
                case SHARE:
                    return MAX_SHARE;
                case RESERVE:
                    return MAX_RESERVE;
                default:
                    return MAX_RATE;
            }
        }

        private void apply(int statement, Network target) {
            int first = argument[0];
            int second = argument[1];
            int third = argument[2];
            Setup setup = target.setup;
            switch (statement) {
                case ITEM:
                    setup.newItem(first, second, third);
                    break;
                case BASE:
                    setup.newBase(first);
                    break;
                case LEVEL:
                    target.changeLevel(first, second, third);
                    break;
                case LINK:
                    setup.join(first, second, third);
                    break;
                case SHARE:
                    setup.share[cell(first, second)] = third;
                    break;
                case RESERVE:
                    setup.reserve[cell(first, second)] = third;
                    break;
                case RATE:
                    setup.rate[cell(first, second)] = third;
                    break;
                default:
                    setup.lateralLimit = first;
                    break;
            }
        }

        private void nextToken() {
            while (next < length && isBlank(bytes[next])) {
                next++;
            }
            tokenStart = next;
            if (next >= length) {
                tokenKind = END;
            } else if (isLetter(bytes[next])) {
                readWord();
            } else if (isDigit(bytes[next])) {
                readNumber();
            } else {
                tokenKind = bytes[next] == ';' ? SEMICOLON : NO_TOKEN;
                next++;
            }
        }

        private void readWord() {
            tokenKind = WORD;
            while (next < length && isLetter(bytes[next])) {
                next++;
            }
        }

        private void readNumber() {
            tokenKind = NUMBER;
            number = 0;
            while (next < length && isDigit(bytes[next])) {
                number = Math.min(LARGE_NUMBER, number * 10 + (bytes[next] - '0'));
                next++;
            }
        }

        private static boolean isBlank(int sign) {
            return sign == ' ' || sign == '\n';
        }

        private static boolean isLetter(int sign) {
            return sign >= 'a' && sign <= 'z';
        }

        private static boolean isDigit(int sign) {
            return sign >= '0' && sign <= '9';
        }
    }
}
