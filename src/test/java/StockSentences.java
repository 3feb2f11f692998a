/** The sentences of the promises 17 to 32: stocks, and units with a due day. */
final class StockSentences {
    private static final String NO_BASE_OR_ITEM =
            "Throws `IndexOutOfBoundsException` if there is no such base or item";
    private static final String NO_SITE_OR_ITEM =
            "Throws `IndexOutOfBoundsException` if there is no such site or item";
    private static final String NO_ITEM =
            "Throws `IndexOutOfBoundsException` if there is no such item";
    private static final String NO_UNIT =
            "Throws `IndexOutOfBoundsException` if there is no such unit";

    private StockSentences() {
    }

    static void all() {
        levelAndOnHand();
        customers();
        ordersAndDueIn();
        underWayAndFleet();
        arrival();
        unitsInTheirOrder();
    }

    // ---- promises 17 and 18

    private static void levelAndOnHand() {
        Sentences.noRule("Promise 17", "---- stocks");
        Sentences.holds("Promise 17", "Returns the level.", () -> {
            DepotNetwork x = Nets.bases(2);
            Check.is(0, "the depot at first", x.level(0, 0));
            Check.is(0, "a base at first", x.level(1, 0));
            x.setLevel(0, 0, 20);
            x.setLevel(1, 0, 3);
            x.demand(1, 0, 0);
            Check.is(20, "the depot", x.level(0, 0));
            Check.is(3, "the base, with 2 on hand", x.level(1, 0));
        });
        Sentences.holds("Promise 17", NO_SITE_OR_ITEM, () -> noSiteOrItem(DepotNetwork::level));
        Sentences.holds("Promise 18", "Returns the number of units on hand.", () -> {
            DepotNetwork x = Nets.bases(2);
            Check.is(0, "the depot at first", x.onHand(0, 0));
            Check.is(0, "a base at first", x.onHand(1, 0));
            x.setLevel(0, 0, 20);
            x.setLevel(1, 0, 1);
            x.demand(1, 0, 0);
            x.demand(1, 0, 0);
            Check.is(18, "two are in SUPPLY", x.onHand(0, 0));
            Check.is(0, "none, and a customer waits", x.onHand(1, 0));
            x.advance(2);
            Check.is(1, "one for the customer, one on hand", x.onHand(1, 0));
        });
        Sentences.holds("Promise 18", NO_SITE_OR_ITEM, () -> noSiteOrItem(DepotNetwork::onHand));
    }

    /** The depot is a site; what is not there yet is none. */
    private static void noSiteOrItem(SiteSentences.Asker asker) {
        DepotNetwork x = Nets.bases(1, 2);
        x.addItem(1, 1, 1);
        for (int no : new int[] {3, -1, -2, 8, Integer.MIN_VALUE, Integer.MAX_VALUE}) {
            Check.index("site " + no, () -> asker.ask(x, no, 0));
        }
        for (int no : new int[] {2, -1, -2, 4, Integer.MIN_VALUE, Integer.MAX_VALUE}) {
            Check.index("item " + no + " of a base", () -> asker.ask(x, 1, no));
            Check.index("item " + no + " of the depot", () -> asker.ask(x, 0, no));
        }
        Check.happens("the depot", () -> asker.ask(x, 0, 0));
        Check.happens("the last site and item", () -> asker.ask(x, 2, 1));
    }

    // ---- promises 19 and 20

    private static void customers() {
        Sentences.holds("Promise 19", "Returns the number of customers who wait.", () -> {
            DepotNetwork x = Nets.bases(2, 2);
            x.addItem(1, 1, 1);
            Check.is(0, "nobody", x.waiting(1, 0));
            x.setLevel(1, 0, 1);
            x.demand(1, 0, 0);
            Check.is(0, "filled at once", x.waiting(1, 0));
            Nets.demands(x, 3, 1, 0, 4);
            Nets.demands(x, 2, 2, 0, 4);
            x.demand(1, 1, 4);
            Check.is(3, "base 1, item 0", x.waiting(1, 0));
            Check.is(2, "base 2, item 0", x.waiting(2, 0));
            Check.is(1, "base 1, item 1", x.waiting(1, 1));
            Check.is(0, "base 2, item 1", x.waiting(2, 1));
            x.setLevel(1, 0, 3);
            Check.is(1, "two are served", x.waiting(1, 0));
        });
        Sentences.holds("Promise 19", NO_BASE_OR_ITEM,
                () -> SiteSentences.noBaseOrItem(DepotNetwork::waiting));
        Sentences.holds("Promise 20",
                "Returns the highest priority of the customers who wait; NONE if nobody waits.",
                StockSentences::topPriorities);
        Sentences.holds("Promise 20", NO_BASE_OR_ITEM,
                () -> SiteSentences.noBaseOrItem(DepotNetwork::topPriority));
    }

    private static void topPriorities() {
        DepotNetwork x = Nets.bases(2, 2);
        x.addItem(1, 1, 1);
        Check.is(-1, "nobody waits", x.topPriority(1, 0));
        x.demand(1, 0, 0);
        Check.is(0, "priority 0", x.topPriority(1, 0));
        x.demand(1, 0, 7);
        x.demand(1, 0, 3);
        Check.is(7, "the highest, neither first nor last", x.topPriority(1, 0));
        Check.is(-1, "nobody at base 2", x.topPriority(2, 0));
        Check.is(-1, "nobody for item 1", x.topPriority(1, 1));
        x.demand(2, 0, 9);
        x.demand(1, 1, 8);
        Check.is(7, "others have their own", x.topPriority(1, 0));
        for (int due : new int[] {3, 0, -1}) {
            x.setLevel(1, 0, x.level(1, 0) + 1);
            Check.is(due, "after one is served", x.topPriority(1, 0));
        }
    }

    // ---- promises 21 to 23

    private static void ordersAndDueIn() {
        Sentences.holds("Promise 21", "Returns the number of orders that are kept at the depot.",
                () -> {
                    DepotNetwork x = Nets.bases(2, 2);
                    x.addItem(1, 1, 1);
                    x.setLevel(0, 0, 1);
                    x.demand(1, 0, 0);
                    Check.is(0, "the depot had one", x.keptOrders(0));
                    x.demand(1, 0, 0);
                    x.demand(2, 0, 0);
                    x.demand(2, 1, 0);
                    Check.is(2, "of both bases", x.keptOrders(0));
                    Check.is(1, "of item 1", x.keptOrders(1));
                    x.setShare(1, 0, 10);
                    x.demand(1, 0, 0);
                    Check.is(2, "a local repair is no order", x.keptOrders(0));
                    x.setLevel(0, 0, 2);
                    Check.is(1, "one is filled", x.keptOrders(0));
                });
        Sentences.holds("Promise 21", NO_ITEM, () -> noItem(DepotNetwork::keptOrders));
        Sentences.holds("Promise 22", "Counts what a base may expect.", StockSentences::expected);
        Sentences.holds("Promise 22", "Returns the number of units under way whose owner is the"
                + " base, plus the number of its orders that are kept at the depot.",
                StockSentences::owned);
        Sentences.holds("Promise 22", NO_BASE_OR_ITEM,
                () -> SiteSentences.noBaseOrItem(DepotNetwork::dueIn));
        Sentences.holds("Promise 23", "Returns the units on hand plus dueIn() minus the customers"
                + " who wait (which is always the level).", StockSentences::positions);
        Sentences.holds("Promise 23", NO_BASE_OR_ITEM,
                () -> SiteSentences.noBaseOrItem(DepotNetwork::position));
    }

    private interface ItemAsker {
        int ask(DepotNetwork x, int item);
    }

    private static void noItem(ItemAsker asker) {
        DepotNetwork x = Nets.bases(1, 2);
        Check.index("item 1 is not there yet", () -> asker.ask(x, 1));
        x.addItem(1, 1, 1);
        for (int no : new int[] {2, -1, -2, 4, Integer.MIN_VALUE, Integer.MAX_VALUE}) {
            Check.index("item " + no, () -> asker.ask(x, no));
        }
        Check.happens("the first item", () -> asker.ask(x, 0));
        Check.happens("the last item", () -> asker.ask(x, 1));
    }

    private static void expected() {
        DepotNetwork x = Nets.bases(2, 2);
        Check.is(0, "nothing", x.dueIn(1, 0));
        x.demand(1, 0, 0);
        Check.is(1, "an order", x.dueIn(1, 0));
        Check.is(0, "not base 2", x.dueIn(2, 0));
        x.advance(7);
        Check.is(0, "no order is kept", x.keptOrders(0));
        Check.is(1, "a unit in SUPPLY", x.dueIn(1, 0));
        x.advance(2);
        Check.is(0, "it is there", x.dueIn(1, 0));
    }

    /** Four kinds of what a base may expect, and what only passes through it. */
    private static void owned() {
        DepotNetwork x = Nets.bases(4, 6);
        x.addItem(5, 1, 3);
        x.setLevel(2, 0, 1);
        x.setLink(1, 2, 9);
        x.setLateralLimit(9);
        x.setShare(1, 0, 10);
        x.demand(1, 0, 0);
        Check.is(1, "base 1: LATERAL, not the REPAIR for base 2", x.dueIn(1, 0));
        Check.is(1, "base 2: the REPAIR at base 1", x.dueIn(2, 0));
        x.demand(1, 0, 0);
        Check.is(2, "base 1: a REPAIR of its own", x.dueIn(1, 0));
        x.setShare(1, 0, 0);
        x.demand(1, 0, 0);
        Check.is(3, "base 1: a kept order, not the RETURN", x.dueIn(1, 0));
        x.setLevel(0, 0, 1);
        Check.is(3, "base 1: now it is in SUPPLY", x.dueIn(1, 0));
        x.demand(1, 1, 0);
        Check.is(3, "base 1: item 1 is counted apart", x.dueIn(1, 0));
        Check.is(1, "base 1, item 1", x.dueIn(1, 1));
        Check.is(1, "base 2 still", x.dueIn(2, 0));
        x.advance(4);
        Check.is(1, "base 1: LATERAL alone", x.dueIn(1, 0));
        Check.is(1, "base 2: LATERAL now", x.dueIn(2, 0));
    }

    private static void positions() {
        DepotNetwork x = Nets.bases(4, 6);
        Check.is(0, "at first", x.position(1, 0));
        x.setLevel(2, 0, 2);
        x.setLevel(1, 0, 1);
        x.setLink(1, 2, 3);
        x.setLateralLimit(3);
        x.setShare(1, 0, 5);
        for (int k = 0; k < 12; k++) {
            x.demand(1 + k % 3 / 2, 0, k % 10);
            x.advance(1);
            Check.is(1, "base 1", x.position(1, 0));
            Check.is(2, "base 2", x.position(2, 0));
        }
        x.setLevel(1, 0, 20);
        Check.is(20, "base 1 has bought", x.position(1, 0));
        Check.is(20, "on hand, due, less who waits",
                x.onHand(1, 0) + x.dueIn(1, 0) - x.waiting(1, 0));
    }

    // ---- promises 24 and 25

    private static void underWayAndFleet() {
        Sentences.holds("Promise 24", "Counts units of an item under way.",
                StockSentences::countUnderWay);
        Sentences.holds("Promise 24", "- `kind`: 0 to 4", () -> {
            DepotNetwork x = Nets.bases(1);
            SiteSentences.range(0, 4, kind -> x.underWay(0, kind));
        });
        Sentences.holds("Promise 24",
                "Returns the number of units in this kind of state, at all sites.",
                StockSentences::atAllSites);
        Sentences.holds("Promise 24", NO_ITEM, () -> noItem((x, item) -> x.underWay(item, 0)));
        Sentences.holds("Promise 24", "Throws `IllegalArgumentException` if kind is out of range",
                () -> {
                    DepotNetwork x = Nets.busy();
                    for (int kind : new int[] {-1, 5, Integer.MIN_VALUE, Integer.MAX_VALUE}) {
                        Check.argument("kind " + kind, () -> x.underWay(0, kind));
                        Check.argument("kind " + kind + ", item 1", () -> x.underWay(1, kind));
                    }
                });
        Sentences.holds("Promise 25", "Returns the number of units on hand at all sites, plus the"
                + " units under way in all kinds, minus the customers who wait (which is always the"
                + " sum of the levels).", StockSentences::fleets);
        Sentences.holds("Promise 25", NO_ITEM, () -> noItem(DepotNetwork::fleet));
    }

    /** Item 0 has a unit in REPAIR at the depot and at base 1, one in LATERAL, five WAITING. */
    private static DepotNetwork repairsAndWaiting() {
        DepotNetwork x = new DepotNetwork();
        x.addItem(30, 1, 30);
        x.addItem(30, 1, 30);
        Nets.addBases(x, 1, 20, 2);
        Nets.demands(x, 6, 1, 0, 0);
        x.advance(1);
        x.setLevel(2, 0, 20);
        x.setLink(1, 2, 20);
        x.setLateralLimit(20);
        x.setLevel(0, 0, 6);
        x.advance(1);
        x.setShare(1, 0, 10);
        x.demand(1, 0, 0);
        x.setShare(1, 0, 0);
        return x;
    }

    private static void countUnderWay() {
        DepotNetwork x = repairsAndWaiting();
        int[] due = {0, 2, 0, 1, 5};
        for (int kind = 0; kind <= 4; kind++) {
            Check.is(due[kind], "item 0, kind " + kind, x.underWay(0, kind));
            Check.is(0, "item 1, kind " + kind, x.underWay(1, kind));
        }
        x.setLevel(0, 0, 7);
        x.demand(3, 0, 0);
        int[] then = {1, 2, 1, 1, 5};
        for (int kind = 0; kind <= 4; kind++) {
            Check.is(then[kind], "then item 0, kind " + kind, x.underWay(0, kind));
        }
    }

    private static void atAllSites() {
        DepotNetwork x = Nets.bases(2, 2, 2);
        for (int b = 1; b <= 3; b++) {
            x.demand(b, 0, 0);
        }
        Check.is(3, "RETURN from three bases", x.underWay(0, 0));
        x.setLevel(0, 0, 3);
        Check.is(3, "SUPPLY to three bases", x.underWay(0, 2));
        x.advance(2);
        x.setShare(2, 0, 10);
        x.setShare(3, 0, 10);
        x.demand(2, 0, 0);
        x.demand(3, 0, 0);
        Check.is(3, "REPAIR at the depot and two bases", x.underWay(0, 1));
        Check.is(2, "WAITING", x.underWay(0, 4));
    }

    private static void fleets() {
        DepotNetwork shelf = Nets.bases(2, 2);
        shelf.setLevel(0, 0, 7);
        Check.is(7, "on hand at the depot", shelf.fleet(0));
        shelf.setLevel(2, 0, 20);
        Check.is(27, "and at the last base", shelf.fleet(0));
        DepotNetwork x = Nets.bases(2, 2);
        x.addItem(1, 1, 1);
        Check.is(0, "at first", x.fleet(0));
        Nets.demands(x, 4, 1, 0, 0);
        Check.is(0, "four in RETURN for four customers", x.fleet(0));
        x.setLevel(0, 0, 2);
        x.setLevel(1, 0, 3);
        x.setLevel(2, 0, 20);
        Check.is(25, "item 0", x.fleet(0));
        x.setLevel(2, 1, 6);
        for (int d = 0; d < 12; d++) {
            x.advance(1);
            x.demand(2, 1, 0);
            Check.is(25, "item 0 each day", x.fleet(0));
            Check.is(6, "item 1 each day", x.fleet(1));
        }
        x.setLevel(2, 0, 0);
        Check.is(5, "20 are sold", x.fleet(0));
    }

    // ---- promise 26

    private static void arrival() {
        Sentences.holds("Promise 26", "Finds the next unit that is due to come to a base.",
                StockSentences::theEarliest);
        Sentences.holds("Promise 26", "Returns the number of days until the earliest due day of a"
                + " unit in SUPPLY or LATERAL whose owner is the base, or in REPAIR at this base"
                + " with the base as its owner; NONE if there is none.",
                StockSentences::arrivals);
        Sentences.holds("Promise 26", NO_BASE_OR_ITEM,
                () -> SiteSentences.noBaseOrItem(DepotNetwork::nextArrival));
    }

    private static void theEarliest() {
        DepotNetwork x = Nets.bases(9, 9);
        x.setLevel(0, 0, 1);
        x.setLevel(2, 0, 1);
        x.setLink(1, 2, 5);
        x.demand(1, 0, 0);
        Check.is(9, "SUPPLY", x.nextArrival(1, 0));
        x.setLateralLimit(5);
        x.demand(1, 0, 0);
        Check.is(5, "LATERAL is earlier", x.nextArrival(1, 0));
        x.setShare(1, 0, 10);
        x.demand(1, 0, 0);
        Check.is(3, "REPAIR is the earliest", x.nextArrival(1, 0));
        int[] due = {2, 1, 2, 1, 4, 3, 2, 1};
        for (int d = 0; d < due.length; d++) {
            x.advance(1);
            Check.is(due[d], "on day " + x.day(), x.nextArrival(1, 0));
        }
        x.advance(1);
        Check.is(-1, "all have come", x.nextArrival(1, 0));
    }

    private static void arrivals() {
        DepotNetwork x = Nets.bases(4, 6);
        x.addItem(5, 1, 3);
        Check.is(-1, "nothing is under way", x.nextArrival(1, 0));
        x.demand(1, 0, 0);
        Check.is(-1, "a RETURN and a kept order do not come", x.nextArrival(1, 0));
        x.advance(4);
        Check.is(-1, "nor does a REPAIR at the depot", x.nextArrival(1, 0));
        x.setLevel(2, 0, 1);
        x.setLink(1, 2, 8);
        x.setLateralLimit(8);
        x.setShare(1, 0, 10);
        x.demand(1, 0, 0);
        Check.is(8, "LATERAL to base 1", x.nextArrival(1, 0));
        Check.is(-1, "the REPAIR at base 1 is not due at base 2 yet", x.nextArrival(2, 0));
        Check.is(-1, "nothing of item 1", x.nextArrival(1, 1));
        x.advance(3);
        Check.is(8, "now it is", x.nextArrival(2, 0));
        x.advance(7);
        Check.is(1, "the day before", x.nextArrival(2, 0));
        x.advance(1);
        Check.is(-1, "it has come", x.nextArrival(2, 0));
    }

    // ---- promises 27 to 32

    private static void unitsInTheirOrder() {
        Sentences.holds("Promise 27", "---- units with a due day, in the order in which they will be"
                + " treated (by due day, kind, and the order in which they came into the state),"
                + " numbered from 0", StockSentences::theirOrder);
        Sentences.holds("Promise 27",
                "Returns the number of units in the kinds 0 to 3, of all items.", () -> {
                    DepotNetwork x = Nets.bases(2);
                    x.addItem(5, 1, 3);
                    Check.is(0, "at first", x.dueCount());
                    Nets.demands(x, 3, 1, 0, 0);
                    Nets.demands(x, 2, 1, 1, 0);
                    Check.is(5, "of both items", x.dueCount());
                    x.advance(2);
                    Check.is(2, "not those WAITING", x.dueCount());
                });
        Sentences.holds("Promise 28", "Returns its due day.", () -> ofEach(0));
        Sentences.holds("Promise 28", NO_UNIT, () -> noUnit(DepotNetwork::dueDay));
        Sentences.holds("Promise 29", "Returns its kind, 0 to 3.", () -> ofEach(1));
        Sentences.holds("Promise 29", NO_UNIT, () -> noUnit(DepotNetwork::dueKind));
        Sentences.holds("Promise 30", "Returns its item.", () -> ofEach(2));
        Sentences.holds("Promise 30", NO_UNIT, () -> noUnit(DepotNetwork::dueItem));
        Sentences.holds("Promise 31",
                "Returns the site to which it is on its way, or at which it is in REPAIR.",
                () -> ofEach(3));
        Sentences.holds("Promise 31", NO_UNIT, () -> noUnit(DepotNetwork::dueSite));
        Sentences.holds("Promise 32", "Returns its owner.", () -> ofEach(4));
        Sentences.holds("Promise 32", NO_UNIT, () -> noUnit(DepotNetwork::dueOwner));
    }

    private static void theirOrder() {
        DepotNetwork x = Nets.bases(3, 3);
        x.addItem(5, 1, 3);
        x.addItem(5, 1, 2);
        x.setLevel(2, 1, 1);
        x.setLink(1, 2, 3);
        x.setLateralLimit(3);
        x.setShare(1, 0, 10);
        x.demand(1, 1, 0);
        Check.is("3 0 1 0 0, 3 3 1 1 1", "RETURN and LATERAL", Nets.units(x));
        x.setLevel(0, 1, 1);
        x.demand(1, 0, 0);
        Check.is("3 0 1 0 0, 3 1 0 1 1, 3 2 1 2 2, 3 3 1 1 1", "and REPAIR and SUPPLY",
                Nets.units(x));
        x.demand(2, 0, 0);
        x.setShare(2, 2, 10);
        x.demand(2, 2, 0);
        x.demand(2, 1, 0);
        Check.is("2 1 2 2 2, 3 0 1 0 0, 3 0 0 0 0, 3 0 1 0 0, 3 1 0 1 1, 3 2 1 2 2, 3 3 1 1 1",
                "by due day, kind and coming", Nets.units(x));
    }

    private interface UnitAsker {
        int ask(DepotNetwork x, int index);
    }

    private static void noUnit(UnitAsker asker) {
        DepotNetwork x = Nets.bases(2);
        Check.index("no unit at all", () -> asker.ask(x, 0));
        Nets.demands(x, 2, 1, 0, 0);
        for (int no : new int[] {-1, 2, 300, Integer.MIN_VALUE, Integer.MAX_VALUE}) {
            Check.index("unit " + no, () -> asker.ask(x, no));
        }
        Check.happens("the first", () -> asker.ask(x, 0));
        Check.happens("the last", () -> asker.ask(x, 1));
        x.advance(2);
        Check.index("the second is WAITING now", () -> asker.ask(x, 1));
    }

    /** One unit of each kind, and REPAIR three times: day, kind, item, site and owner. */
    private static void ofEach(int what) {
        DepotNetwork x = Nets.bases(4, 6);
        x.addItem(7, 1, 2);
        x.demand(2, 1, 0);
        x.advance(6);
        x.setLevel(2, 0, 1);
        x.setLink(1, 2, 9);
        x.setLateralLimit(9);
        x.setShare(1, 0, 10);
        x.demand(1, 0, 0);
        x.demand(1, 0, 0);
        x.setLevel(0, 1, 2);
        x.demand(2, 1, 0);
        int[][] due = {{9, 1, 0, 1, 2}, {9, 1, 0, 1, 1}, {12, 0, 1, 0, 0}, {12, 2, 1, 2, 2},
            {12, 2, 1, 2, 2}, {13, 1, 1, 0, 0}, {15, 3, 0, 1, 1}};
        Check.is(due.length, "dueCount()", x.dueCount());
        UnitAsker[] askers = {DepotNetwork::dueDay, DepotNetwork::dueKind, DepotNetwork::dueItem,
            DepotNetwork::dueSite, DepotNetwork::dueOwner};
        for (int k = 0; k < due.length; k++) {
            Check.is(due[k][what], "unit " + k, askers[what].ask(x, k));
        }
    }
}
