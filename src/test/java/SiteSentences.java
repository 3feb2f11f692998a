/** The sentences on sites and items, and of the promises 1 to 11. */
final class SiteSentences {
    private static final String SITES = "SITES AND ITEMS";
    private static final String NO_ARGUMENT =
            "Throws `IllegalArgumentException` if an argument is out of range";
    private static final String NO_BASE_OR_ITEM =
            "Throws `IndexOutOfBoundsException` if there is no such base or item";
    private static final int[] FAR = {Integer.MIN_VALUE, Integer.MAX_VALUE};

    private SiteSentences() {
    }

    static void all() {
        sitesAndItems();
        adding();
        linking();
        levels();
        baseSettings();
        lateralLimit();
    }

    private static void sitesAndItems() {
        Sentences.holds("The constants",
                "- `NONE = -1`: There is none; in some methods: all of them.",
                SiteSentences::none);
        Sentences.holds(SITES,
                "Site 0 is the depot; the bases are the sites 1 to 7 (at most 7 bases).",
                SiteSentences::siteNumbers);
        Sentences.holds(SITES, "A base has a lead time (1 to 20 days), which a shipment takes"
                + " between the depot and the base, in both directions.",
                SiteSentences::leadTimes);
        Sentences.holds(SITES,
                "Two bases may be linked; a link has a lead time of its own (1 to 20 days).",
                SiteSentences::linkTimes);
        Sentences.holds(SITES, "There are at most 4 items, numbered from 0.",
                SiteSentences::itemNumbers);
        Sentences.holds(SITES, "An item has a depot repair time (1 to 30 days), a number of repair"
                + " places at the depot (1 to 5), and a local repair time (1 to 30 days).",
                SiteSentences::repairTimesAndPlaces);
        Sentences.holds(SITES, "For each site and item there is a level (0 to 20, 0 at first),"
                + " which is the number of units that the site owns, and the number of units on"
                + " hand.", SiteSentences::levelsOfTheirOwn);
        Sentences.holds(SITES, "For each base and item there are a reserve (0 to 20, 0 at first),"
                + " a local share (0 to 10, 0 at first), and a demand rate (0 to 100, 0 at"
                + " first).", SiteSentences::settingsOfTheirOwn);
        Sentences.holds(SITES,
                "The lateral limit is a number of days (0 to 20, 0 at first).",
                SiteSentences::limitAtFirst);
        Sentences.holds(SITES, "Days are counted from 0.",
                () -> Check.is(0, "day()", new DepotNetwork().day()));
    }

    private static void none() {
        DepotNetwork x = Nets.bases(1);
        Check.is(-1, "NONE", DepotNetwork.NONE);
        Check.is(DepotNetwork.NONE, "there is none", x.topPriority(1, 0));
        x.demand(1, 0, 0);
        Check.is(1, "all of them", x.demands(DepotNetwork.NONE, DepotNetwork.NONE));
    }

    private static void siteNumbers() {
        DepotNetwork x = Nets.bases();
        Check.is(0, "site 0 is there", x.level(0, 0));
        Check.index("site 0 is no base", () -> x.waiting(0, 0));
        for (int b = 1; b <= 7; b++) {
            int base = b;
            Check.index("no base yet", () -> x.waiting(base, 0));
            Check.is(b, "addBase", x.addBase(1));
            Check.is(0, "a base now", x.waiting(b, 0));
        }
        Check.state("an 8th base", () -> x.addBase(1));
        Check.index("no site 8", () -> x.level(8, 0));
    }

    private static void leadTimes() {
        for (int lead : new int[] {1, 20}) {
            DepotNetwork x = Nets.bases(7, lead);
            x.setLevel(0, 0, 1);
            x.demand(2, 0, 0);
            Check.is(lead + " 0 0 0 0, " + lead + " 2 0 2 2", "both directions", Nets.units(x));
            Nets.toDay(x, lead - 1);
            Check.is(1, "not there the day before", x.waiting(2, 0));
            Check.is(1, "nor at the depot", x.underWay(0, 0));
            x.advance(1);
            Check.is(0, "there", x.waiting(2, 0));
            Check.is((lead + 5) + " 1 0 0 0", "and at the depot", Nets.units(x));
        }
    }

    private static void linkTimes() {
        for (int lead : new int[] {1, 20}) {
            DepotNetwork x = Nets.bases(7, 8);
            x.setLevel(2, 0, 1);
            x.setLink(1, 2, lead);
            x.setLateralLimit(20);
            x.demand(1, 0, 0);
            Check.is(lead, "days from base 2 to base 1", x.nextArrival(1, 0));
            Nets.toDay(x, lead - 1);
            Check.is(1, "not there the day before", x.waiting(1, 0));
            x.advance(1);
            Check.is(0, "there", x.waiting(1, 0));
        }
    }

    private static void itemNumbers() {
        DepotNetwork x = new DepotNetwork();
        for (int i = 0; i < 4; i++) {
            int item = i;
            Check.index("no item yet", () -> x.fleet(item));
            Check.is(i, "addItem", x.addItem(1, 1, 1));
            Check.is(0, "an item now", x.fleet(i));
        }
        Check.state("a 5th item", () -> x.addItem(1, 1, 1));
        Check.index("no item 4", () -> x.fleet(4));
    }

    private static void repairTimesAndPlaces() {
        for (int time : new int[] {1, 30}) {
            DepotNetwork x = new DepotNetwork();
            x.addItem(time, 1, 7);
            x.addItem(8, 1, time);
            x.addBase(2);
            x.setShare(1, 1, 10);
            x.demand(1, 0, 0);
            x.advance(2);
            x.demand(1, 1, 0);
            Check.is((2 + time) + " 1 0 0 0, " + (2 + time) + " 1 1 1 1", "repair times",
                    Nets.units(x));
            Nets.toDay(x, 1 + time);
            Check.is(2, "both in REPAIR the day before", x.underWay(0, 1) + x.underWay(1, 1));
            x.advance(1);
            Check.is(0, "none in REPAIR", x.underWay(0, 1) + x.underWay(1, 1));
        }
        for (int places : new int[] {1, 5}) {
            DepotNetwork x = new DepotNetwork();
            x.addItem(30, places, 1);
            x.addBase(1);
            Nets.demands(x, 7, 1, 0, 0);
            x.advance(1);
            Check.is(places, "in REPAIR", x.underWay(0, 1));
            Check.is(7 - places, "WAITING", x.underWay(0, 4));
        }
    }

    private static void levelsOfTheirOwn() {
        DepotNetwork x = Nets.full(1);
        x.setLevel(0, 3, 20);
        Check.is(0, "at first", x.level(0, 0));
        Check.is(0, "on hand at first", x.onHand(0, 0));
        Check.is(20, "at most", x.level(0, 3));
        for (int b = 1; b <= 7; b++) {
            for (int i = 0; i < 4; i++) {
                x.setLevel(b, i, (b + 2 * i) % 21);
            }
        }
        for (int b = 1; b <= 7; b++) {
            for (int i = 0; i < 4; i++) {
                Check.is((b + 2 * i) % 21, "level " + b + " " + i, x.level(b, i));
                Check.is((b + 2 * i) % 21, "on hand " + b + " " + i, x.onHand(b, i));
            }
        }
    }

    private static void settingsOfTheirOwn() {
        DepotNetwork x = Nets.full(1);
        for (int b = 1; b <= 7; b++) {
            for (int i = 0; i < 4; i++) {
                Check.is(0, "reserve at first", x.setReserve(b, i, 20 - b - i));
                Check.is(0, "share at first", x.setShare(b, i, b + i));
                Check.is(0, "rate at first", x.setRate(b, i, 100 - 7 * i - b));
            }
        }
        for (int b = 1; b <= 7; b++) {
            for (int i = 0; i < 4; i++) {
                Check.is(20 - b - i, "reserve " + b + " " + i, x.setReserve(b, i, 0));
                Check.is(b + i, "share " + b + " " + i, x.setShare(b, i, 0));
                Check.is(100 - 7 * i - b, "rate " + b + " " + i, x.setRate(b, i, 0));
            }
        }
    }

    private static void limitAtFirst() {
        DepotNetwork x = Nets.bases(1, 1);
        x.setLink(1, 2, 1);
        x.setLevel(2, 0, 1);
        x.demand(1, 0, 0);
        Check.is(0, "nobody helps within 0 days", x.helped(2, 0));
        Check.is(0, "at first", x.setLateralLimit(20));
    }

    // ---- promises 1 to 5

    private static void adding() {
        Sentences.holds("Promise 1", "Creates a network of the depot alone, without items, on"
                + " day 0, with an empty text buffer and no saved states.",
                SiteSentences::newObject);
        Sentences.noRule("Promise 2", "---- the network");
        Sentences.holds("Promise 2", "Adds an item.", SiteSentences::newItem);
        Sentences.holds("Promise 2", "- `depotTime`: the depot repair time, 1 to 30",
                () -> range(1, 30, v -> new DepotNetwork().addItem(v, 1, 1)));
        Sentences.holds("Promise 2", "- `places`: the number of repair places at the depot, 1 to 5",
                () -> range(1, 5, v -> new DepotNetwork().addItem(1, v, 1)));
        Sentences.holds("Promise 2", "- `localTime`: the local repair time, 1 to 30",
                () -> range(1, 30, v -> new DepotNetwork().addItem(1, 1, v)));
        Sentences.holds("Promise 2", "Returns the number of the item.",
                SiteSentences::itemNumbers);
        Sentences.holds("Promise 2", NO_ARGUMENT, SiteSentences::wrongItem);
        Sentences.holds("Promise 2", "Throws `IllegalStateException` if there are 4 items",
                SiteSentences::fourItems);
        Sentences.holds("Promise 3", "Adds a base.", SiteSentences::newBase);
        Sentences.holds("Promise 3", "- `leadTime`: 1 to 20",
                () -> range(1, 20, v -> new DepotNetwork().addBase(v)));
        Sentences.holds("Promise 3", "Returns the number of the site.",
                SiteSentences::siteNumbers);
        Sentences.holds("Promise 3",
                "Throws `IllegalArgumentException` if leadTime is out of range",
                SiteSentences::wrongBase);
        Sentences.holds("Promise 3", "Throws `IllegalStateException` if there are 7 bases",
                SiteSentences::sevenBases);
        Sentences.holds("Promise 4", "Returns the number of items.", SiteSentences::countItems);
        Sentences.holds("Promise 5", "Returns the number of sites, the depot included.",
                SiteSentences::countSites);
    }

    interface Setter {
        int set(int value);
    }

    /** Both ends are taken; what is just beyond, or far away, is not. */
    static void range(int low, int high, Setter setter) {
        Check.happens("lowest", () -> setter.set(low));
        Check.happens("highest", () -> setter.set(high));
        Check.argument("too low", () -> setter.set(low - 1));
        Check.argument("too high", () -> setter.set(high + 1));
        for (int far : FAR) {
            Check.argument("far away", () -> setter.set(far));
        }
    }

    private static void newObject() {
        DepotNetwork x = new DepotNetwork();
        Check.is(1, "siteCount()", x.siteCount());
        Check.is(0, "itemCount()", x.itemCount());
        Check.is(0, "day()", x.day());
        Check.is(0, "dueCount()", x.dueCount());
        Check.is(0, "refusedDemands()", x.refusedDemands());
        Check.argument("the text is empty", () -> x.truncateText(1));
        Check.is(4, "the text is empty", x.appendText(0));
        Check.state("nothing in slot 0", () -> restore(x, 0));
        Check.state("nothing in slot 1", () -> restore(x, 1));
        DepotNetwork y = Nets.bases(1);
        y.save(0);
        DepotNetwork z = new DepotNetwork();
        Check.is(0, "objects are apart", z.itemCount());
        Check.state("saved states are apart", () -> restore(z, 0));
    }

    private static int restore(DepotNetwork x, int slot) {
        x.restore(slot);
        return 0;
    }

    private static void newItem() {
        DepotNetwork x = Nets.busy();
        String units = Nets.units(x);
        Check.is(2, "addItem", x.addItem(3, 2, 4));
        Check.is(3, "itemCount()", x.itemCount());
        Check.is(4, "siteCount()", x.siteCount());
        for (int s = 0; s <= 3; s++) {
            Check.is(0, "its level", x.level(s, 2));
            Check.is(0, "on hand", x.onHand(s, 2));
        }
        Check.is(0, "its demands", x.demands(-1, 2));
        Check.is(units, "what is under way", Nets.units(x));
    }

    private static void wrongItem() {
        DepotNetwork x = new DepotNetwork();
        int[][] wrong = {{0, 1, 1}, {31, 1, 1}, {1, 0, 1}, {1, 6, 1}, {1, 1, 0}, {1, 1, 31}};
        for (int[] w : wrong) {
            Check.argument("addItem", () -> x.addItem(w[0], w[1], w[2]));
        }
        Check.is(0, "no item was added", x.itemCount());
    }

    private static void fourItems() {
        DepotNetwork x = new DepotNetwork();
        for (int i = 0; i < 3; i++) {
            x.addItem(1, 1, 1);
        }
        Check.is(3, "the 4th", x.addItem(1, 1, 1));
        Check.state("the 5th", () -> x.addItem(1, 1, 1));
        Check.state("the 5th again", () -> x.addItem(30, 5, 30));
        Check.is(4, "itemCount()", x.itemCount());
        Nets.write(x, "item 1 1 1;");
        x.load();
        Check.is(1, "room after load", x.addItem(1, 1, 1));
    }

    private static void newBase() {
        DepotNetwork x = Nets.busy();
        Check.is(4, "addBase", x.addBase(3));
        Check.is(5, "siteCount()", x.siteCount());
        for (int i = 0; i < 2; i++) {
            Check.is(0, "its level", x.level(4, i));
            Check.is(0, "who waits", x.waiting(4, i));
            Check.is(0, "its demands", x.demands(4, i));
            Check.is(0, "its rate", x.setRate(4, i, 0));
        }
        for (int b = 1; b <= 3; b++) {
            Check.is(0, "no link yet", x.setLink(4, b, 1));
        }
    }

    private static void wrongBase() {
        DepotNetwork x = new DepotNetwork();
        Check.argument("addBase(0)", () -> x.addBase(0));
        Check.argument("addBase(21)", () -> x.addBase(21));
        Check.is(1, "no base was added", x.siteCount());
    }

    private static void sevenBases() {
        DepotNetwork x = new DepotNetwork();
        Nets.addBases(x, 1, 2, 3, 4, 5, 6);
        Check.is(7, "the 7th", x.addBase(1));
        Check.state("the 8th", () -> x.addBase(1));
        Check.state("the 8th again", () -> x.addBase(20));
        Check.is(8, "siteCount()", x.siteCount());
        Nets.write(x, "base 1;");
        x.load();
        Check.is(2, "room after load", x.addBase(1));
    }

    private static void countItems() {
        DepotNetwork x = new DepotNetwork();
        for (int i = 0; i <= 4; i++) {
            Check.is(i, "itemCount()", x.itemCount());
            if (i < 4) {
                x.addItem(1, 1, 1);
                x.addBase(1);
            }
        }
    }

    private static void countSites() {
        DepotNetwork x = new DepotNetwork();
        x.addItem(1, 1, 1);
        for (int b = 0; b <= 7; b++) {
            Check.is(b + 1, "siteCount()", x.siteCount());
            if (b < 7) {
                x.addBase(1);
            }
        }
    }

    // ---- promise 6

    private static void linking() {
        String six = "Promise 6";
        Sentences.holds(six, "Links two bases, or changes the lead time of their link.",
                SiteSentences::linkedAndChanged);
        Sentences.holds(six, "- `leadTime`: 1 to 20, or 0 to remove the link",
                SiteSentences::linkRange);
        Sentences.holds(six, "Returns the previous lead time; 0 if they were not linked.",
                SiteSentences::previousLink);
        Sentences.holds(six, "Throws `IndexOutOfBoundsException` if one of them is not a base",
                SiteSentences::linkOfNoBase);
        Sentences.holds(six,
                "Throws `IllegalArgumentException` if both are the same, or leadTime is out of"
                + " range", SiteSentences::linkToItself);
    }

    private static void linkedAndChanged() {
        DepotNetwork x = Nets.bases(1, 1, 1);
        x.setLevel(2, 0, 9);
        x.setLevel(3, 0, 9);
        x.setLateralLimit(20);
        x.setLink(1, 2, 5);
        x.demand(1, 0, 0);
        Check.is(1, "base 2 is linked", x.helped(2, 0));
        x.setLink(1, 2, 4);
        Check.is(5, "what is under way keeps its due day", x.nextArrival(1, 0));
        x.demand(1, 0, 0);
        Check.is(4, "the new lead time", x.nextArrival(1, 0));
        Check.is(0, "base 3 is not linked", x.helped(3, 0));
        x.setLevel(3, 0, 0);
        x.demand(3, 0, 0);
        Check.is(2, "nor are 2 and 3", x.helped(2, 0));
    }

    private static void linkRange() {
        DepotNetwork x = Nets.bases(1, 1);
        range(0, 20, v -> x.setLink(1, 2, v));
        x.setLevel(2, 0, 9);
        x.setLateralLimit(20);
        x.setLink(1, 2, 0);
        x.demand(1, 0, 0);
        Check.is(0, "the link is removed", x.helped(2, 0));
        Check.is(0, "and can be removed again", x.setLink(2, 1, 0));
    }

    private static void previousLink() {
        DepotNetwork x = Nets.bases(1, 1, 1);
        Check.is(0, "not linked", x.setLink(1, 2, 20));
        Check.is(20, "linked", x.setLink(1, 2, 7));
        Check.is(7, "seen from the other base", x.setLink(2, 1, 1));
        Check.is(1, "seen from the one", x.setLink(1, 2, 0));
        Check.is(0, "removed", x.setLink(1, 2, 3));
        Check.is(0, "others have links of their own", x.setLink(1, 3, 4));
        Check.is(0, "2 and 3 too", x.setLink(3, 2, 5));
        Check.is(3, "1 and 2", x.setLink(2, 1, 0));
        Check.is(4, "1 and 3", x.setLink(3, 1, 0));
        Check.is(5, "2 and 3", x.setLink(2, 3, 0));
    }

    private static void linkOfNoBase() {
        DepotNetwork x = Nets.bases(1, 1);
        for (int no : new int[] {0, 3, -1, 8, Integer.MIN_VALUE, Integer.MAX_VALUE}) {
            Check.index("the one is no base", () -> x.setLink(no, 1, 1));
            Check.index("the other is no base", () -> x.setLink(2, no, 1));
            Check.index("both are none", () -> x.setLink(no, no, 1));
        }
        Check.is(0, "no link was made", x.setLink(1, 2, 0));
    }

    private static void linkToItself() {
        DepotNetwork x = Nets.bases(1, 1);
        x.setLink(1, 2, 9);
        Check.argument("1 and 1", () -> x.setLink(1, 1, 1));
        Check.argument("2 and 2", () -> x.setLink(2, 2, 20));
        Check.argument("1 and 1, to remove", () -> x.setLink(1, 1, 0));
        Check.argument("-1", () -> x.setLink(1, 2, -1));
        Check.argument("21", () -> x.setLink(1, 2, 21));
        Check.is(9, "the link stays", x.setLink(1, 2, 9));
        x.setLateralLimit(20);
        x.setLevel(1, 0, 1);
        x.demand(1, 0, 0);
        x.demand(1, 0, 0);
        Check.is(0, "no base helps itself", x.helped(-1, -1));
    }

    // ---- promise 7

    private static void levels() {
        String seven = "Promise 7";
        Sentences.holds(seven, "Changes a level.", SiteSentences::changeLevel);
        Sentences.holds(seven, "If it grows, new units are bought, which come on hand at the site"
                + " (at a base they fill demands of waiting customers first, with their delay, and"
                + " at the depot they fill kept orders first, as repaired units do).",
                SiteSentences::levelGrows);
        Sentences.holds(seven, "If it falls, as many units on hand are sold.",
                SiteSentences::levelFalls);
        Sentences.holds(seven, "- `level`: 0 to 20", () -> {
            DepotNetwork x = Nets.bases(1);
            range(0, 20, v -> x.setLevel(0, 0, v));
            range(0, 20, v -> x.setLevel(1, 0, v));
        });
        Sentences.holds(seven, "Returns the previous level.", SiteSentences::previousLevel);
        Sentences.holds(seven, "Throws `IndexOutOfBoundsException` if there is no such site or"
                + " item", SiteSentences::levelOfNoSite);
        Sentences.holds(seven, "Throws `IllegalArgumentException` if level is out of range",
                SiteSentences::wrongLevel);
        Sentences.holds(seven, "Throws `IllegalStateException` if more units would be sold than"
                + " are on hand", SiteSentences::soldTooMany);
    }

    private static void changeLevel() {
        DepotNetwork x = Nets.full(1);
        x.setLevel(3, 2, 7);
        for (int b = 1; b <= 7; b++) {
            for (int i = 0; i < 4; i++) {
                Check.is(b == 3 && i == 2 ? 7 : 20, "level " + b + " " + i, x.level(b, i));
            }
        }
        x.setLevel(3, 2, 7);
        Check.is(7, "the same level again", x.level(3, 2));
        Check.is(7, "and the same on hand", x.onHand(3, 2));
    }

    private static void levelGrows() {
        boughtForTheShelf();
        boughtForCustomers();
        boughtForOrders();
    }

    private static void boughtForTheShelf() {
        DepotNetwork x = Nets.bases(1);
        for (int s = 0; s <= 1; s++) {
            x.setLevel(s, 0, 1);
            Check.is(1, "one is bought", x.onHand(s, 0));
            x.setLevel(s, 0, 20);
            Check.is(20, "19 more", x.onHand(s, 0));
        }
        Check.is(0, "no delay", x.delays(1, 0));
    }

    private static void boughtForCustomers() {
        DepotNetwork x = Nets.bases(20, 20);
        x.demand(1, 0, 4);
        x.advance(1);
        x.demand(1, 0, 9);
        x.demand(2, 0, 9);
        x.advance(2);
        x.demand(1, 0, 4);
        x.advance(3);
        x.setLevel(1, 0, 1);
        Check.is(5, "the highest priority, from day 1 to 6", x.delays(1, 0));
        Check.is(2, "who waits", x.waiting(1, 0));
        x.setLevel(1, 0, 2);
        Check.is(11, "then who has waited longest, 6 days", x.delays(1, 0));
        Check.is(0, "none on hand", x.onHand(1, 0));
        x.setLevel(1, 0, 4);
        Check.is(14, "then the last one, 3 days", x.delays(1, 0));
        Check.is(1, "and one on hand", x.onHand(1, 0));
        Check.is(1, "base 2 has customers of its own", x.waiting(2, 0));
        Check.is(0, "no fill at once", x.fillNumerator(1, 0));
        Check.is(4, "the orders are kept still", x.keptOrders(0));
    }

    private static void boughtForOrders() {
        DepotNetwork x = Nets.bases(3, 5, 7);
        x.addItem(5, 1, 3);
        x.demand(1, 1, 9);
        x.demand(1, 0, 2);
        x.demand(2, 0, 8);
        x.demand(3, 0, 2);
        x.advance(1);
        x.setLevel(0, 0, 1);
        Check.is(5, "the highest priority first", x.nextArrival(2, 0));
        Check.is(1, "one unit", x.underWay(0, 2));
        x.setLevel(0, 0, 2);
        Check.is(3, "then the earliest order", x.nextArrival(1, 0));
        Check.is(-1, "the later one is kept", x.nextArrival(3, 0));
        x.setLevel(0, 0, 4);
        Check.is(7, "then the last one", x.nextArrival(3, 0));
        Check.is(1, "and one on hand", x.onHand(0, 0));
        Check.is(1, "item 1 has orders of its own", x.keptOrders(1));
    }

    private static void levelFalls() {
        DepotNetwork x = Nets.bases(1);
        for (int s = 0; s <= 1; s++) {
            x.setLevel(s, 0, 20);
            x.setLevel(s, 0, 19);
            Check.is(19, "one is sold", x.onHand(s, 0));
            x.setLevel(s, 0, 0);
            Check.is(0, "all are sold", x.onHand(s, 0));
            Check.is(0, "level", x.level(s, 0));
        }
        x.setLevel(1, 0, 5);
        x.demand(1, 0, 0);
        x.setLevel(1, 0, 1);
        Check.is(0, "the 4 on hand are sold", x.onHand(1, 0));
        Check.is(1, "one is owned", x.level(1, 0));
        Check.is(1, "and expected", x.dueIn(1, 0));
    }

    private static void previousLevel() {
        DepotNetwork x = Nets.bases(1);
        for (int s = 0; s <= 1; s++) {
            Check.is(0, "at first", x.setLevel(s, 0, 20));
            Check.is(20, "then 20", x.setLevel(s, 0, 6));
            Check.is(6, "then 6", x.setLevel(s, 0, 6));
            Check.is(6, "6 again", x.setLevel(s, 0, 0));
            Check.is(0, "then 0", x.setLevel(s, 0, 0));
        }
        x.setLevel(1, 0, 3);
        x.demand(1, 0, 0);
        Check.is(3, "the level, not what is on hand", x.setLevel(1, 0, 4));
    }

    private static void levelOfNoSite() {
        DepotNetwork x = Nets.bases(1);
        for (int no : new int[] {-1, 2, 8, Integer.MIN_VALUE, Integer.MAX_VALUE}) {
            Check.index("no site", () -> x.setLevel(no, 0, 1));
        }
        for (int no : new int[] {-1, 1, 4, Integer.MIN_VALUE, Integer.MAX_VALUE}) {
            Check.index("no item at the depot", () -> x.setLevel(0, no, 1));
            Check.index("no item at a base", () -> x.setLevel(1, no, 1));
        }
        Check.is(0, "nothing was bought", x.fleet(0));
    }

    private static void wrongLevel() {
        DepotNetwork x = Nets.bases(1);
        for (int s = 0; s <= 1; s++) {
            int site = s;
            x.setLevel(s, 0, 4);
            Check.argument("-1", () -> x.setLevel(site, 0, -1));
            Check.argument("21", () -> x.setLevel(site, 0, 21));
            Check.is(4, "level", x.level(s, 0));
            Check.is(4, "on hand", x.onHand(s, 0));
        }
    }

    private static void soldTooMany() {
        DepotNetwork x = Nets.bases(1);
        x.setLevel(0, 0, 2);
        x.setLevel(1, 0, 5);
        Nets.demands(x, 2, 1, 0, 0);
        Check.state("the depot has none on hand", () -> x.setLevel(0, 0, 1));
        Check.is(2, "the depot's level stays", x.setLevel(0, 0, 2));
        Check.state("3 on hand, 4 to be sold", () -> x.setLevel(1, 0, 1));
        Check.is(5, "the level stays", x.level(1, 0));
        Check.is(3, "and so do the 3", x.onHand(1, 0));
        Check.is(5, "3 can be sold", x.setLevel(1, 0, 2));
        Check.is(0, "none is left", x.onHand(1, 0));
        Check.state("none on hand, one to be sold", () -> x.setLevel(1, 0, 1));
        Check.state("nor two", () -> x.setLevel(1, 0, 0));
        Check.is(2, "but it can stay", x.setLevel(1, 0, 2));
    }

    // ---- promises 8 to 11

    private static void baseSettings() {
        Sentences.holds("Promise 8", "- `share`: 0 to 10", () -> {
            DepotNetwork x = Nets.bases(1);
            range(0, 10, v -> x.setShare(1, 0, v));
        });
        Sentences.holds("Promise 8", "Returns the previous local share.", () -> {
            DepotNetwork x = Nets.bases(1, 1);
            previous(v -> x.setShare(1, 0, v), v -> x.setShare(2, 0, v), 10);
        });
        Sentences.holds("Promise 8", NO_BASE_OR_ITEM,
                () -> noBaseOrItem((x, b, i) -> x.setShare(b, i, 1)));
        Sentences.holds("Promise 8", "Throws `IllegalArgumentException` if share is out of range",
                () -> stays((x, v) -> x.setShare(1, 0, v), 5, 11));
        Sentences.holds("Promise 9", "- `reserve`: 0 to 20", () -> {
            DepotNetwork x = Nets.bases(1);
            range(0, 20, v -> x.setReserve(1, 0, v));
        });
        Sentences.holds("Promise 9", "Returns the previous reserve.", () -> {
            DepotNetwork x = Nets.bases(1, 1);
            previous(v -> x.setReserve(1, 0, v), v -> x.setReserve(2, 0, v), 20);
        });
        Sentences.holds("Promise 9", NO_BASE_OR_ITEM,
                () -> noBaseOrItem((x, b, i) -> x.setReserve(b, i, 1)));
        Sentences.holds("Promise 9",
                "Throws `IllegalArgumentException` if reserve is out of range",
                () -> stays((x, v) -> x.setReserve(1, 0, v), 5, 21));
        Sentences.holds("Promise 10", "- `rate`: 0 to 100", () -> {
            DepotNetwork x = Nets.bases(1);
            range(0, 100, v -> x.setRate(1, 0, v));
        });
        Sentences.holds("Promise 10", "Returns the previous demand rate.", () -> {
            DepotNetwork x = Nets.bases(1, 1);
            previous(v -> x.setRate(1, 0, v), v -> x.setRate(2, 0, v), 100);
        });
        Sentences.holds("Promise 10", NO_BASE_OR_ITEM,
                () -> noBaseOrItem((x, b, i) -> x.setRate(b, i, 1)));
        Sentences.holds("Promise 10", "Throws `IllegalArgumentException` if rate is out of range",
                () -> stays((x, v) -> x.setRate(1, 0, v), 5, 101));
    }

    private static void lateralLimit() {
        Sentences.holds("Promise 11", "- `days`: 0 to 20", () -> {
            DepotNetwork x = new DepotNetwork();
            range(0, 20, x::setLateralLimit);
        });
        Sentences.holds("Promise 11", "Returns the previous lateral limit.", () -> {
            DepotNetwork x = new DepotNetwork();
            Check.is(0, "at first", x.setLateralLimit(20));
            Check.is(20, "then 20", x.setLateralLimit(6));
            Check.is(6, "then 6", x.setLateralLimit(0));
            Check.is(0, "then 0", x.setLateralLimit(0));
        });
        Sentences.holds("Promise 11", "Throws `IllegalArgumentException` if days is out of range",
                () -> stays((x, v) -> x.setLateralLimit(v), 5, 21));
    }

    private static void previous(Setter one, Setter other, int most) {
        Check.is(0, "at first", one.set(most));
        Check.is(0, "the other base has its own", other.set(1));
        Check.is(most, "then the most", one.set(3));
        Check.is(3, "then 3", one.set(0));
        Check.is(0, "then 0", one.set(0));
        Check.is(1, "the other base's", other.set(0));
    }

    interface Asker {
        int ask(DepotNetwork x, int base, int item);
    }

    /** The depot is no base, nor is one that is not there yet. */
    static void noBaseOrItem(Asker asker) {
        DepotNetwork x = Nets.bases(1, 2);
        x.addItem(1, 1, 1);
        for (int no : new int[] {0, 3, -1, -2, 8, Integer.MIN_VALUE, Integer.MAX_VALUE}) {
            Check.index("base " + no, () -> asker.ask(x, no, 0));
        }
        for (int no : new int[] {2, -1, -2, 4, Integer.MIN_VALUE, Integer.MAX_VALUE}) {
            Check.index("item " + no, () -> asker.ask(x, 1, no));
            Check.index("neither", () -> asker.ask(x, 3, no));
        }
        Check.happens("the last base and item", () -> asker.ask(x, 2, 1));
        Check.happens("the first base and item", () -> asker.ask(x, 1, 0));
    }

    private interface ObjectSetter {
        int set(DepotNetwork x, int value);
    }

    private static void stays(ObjectSetter setter, int value, int tooMuch) {
        DepotNetwork x = Nets.bases(1);
        setter.set(x, value);
        Check.argument("too much", () -> setter.set(x, tooMuch));
        Check.argument("too little", () -> setter.set(x, -1));
        Check.argument("far away", () -> setter.set(x, Integer.MIN_VALUE));
        Check.is(value, "the previous one stays", setter.set(x, 0));
    }
}
