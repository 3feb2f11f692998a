/** The sentences on days and random demands, and of the promises 13 to 16. */
final class DaySentences {
    private static final String DAYS = "DAYS";
    private static final String RANDOM = "RANDOM DEMANDS";
    private static final String LAST_DAY =
            "Throws `IllegalStateException` if the present day would be greater than 9999";

    private DaySentences() {
    }

    static void all() {
        beginningOfADay();
        randomDemands();
        advance();
        run();
    }

    // ---- days

    private static void beginningOfADay() {
        String order = "When a day begins, all units that are due on it are treated, in the order"
                + " of their kinds (0 to 3), and within a kind in the order in which they came into"
                + " this state:";
        Sentences.holds(DAYS, order, DaySentences::allThatAreDue);
        Sentences.holds(DAYS, order, DaySentences::returnsBeforeRepairs);
        Sentences.holds(DAYS, order, DaySentences::whatCameFirst);
        Sentences.holds(DAYS, "RETURN ends: the unit comes to the depot.", () -> {
            DepotNetwork x = Nets.bases(4);
            x.demand(1, 0, 0);
            x.advance(3);
            Check.is("4 0 0 0 0", "the day before", Nets.units(x));
            x.advance(1);
            Check.is("9 1 0 0 0", "at the depot", Nets.units(x));
        });
        String places = "If fewer units of its item are in REPAIR there than there are repair"
                + " places, it is in REPAIR, due after the depot repair time; otherwise it is"
                + " WAITING.";
        Sentences.holds(DAYS, places, DaySentences::repairPlaces);
        Sentences.holds(DAYS, places, DaySentences::placesOfItsItem);
        Sentences.holds(DAYS, places, DaySentences::repairsAtBasesTakeNoPlace);
        Sentences.holds(DAYS, "REPAIR at the depot ends: the first WAITING unit of this item, if"
                + " there is one, is in REPAIR then, due after the depot repair time.",
                DaySentences::nextIntoRepair);
        Sentences.holds(DAYS, "The repaired unit fills the kept order of its item with the highest"
                + " priority, of equal ones the earliest order: it is sent to the buyer (SUPPLY,"
                + " due after the lead time of the buyer).", DaySentences::fillsAnOrder);
        Sentences.holds(DAYS, "If no order is kept, it is on hand at the depot.",
                DaySentences::noOrderIsKept);
        String lateral = "REPAIR at a base ends: if its owner is another base, the unit is sent"
                + " there (LATERAL, due after the lead time of the link; of the link that joined"
                + " both when the demand occurred, if there is none any more).";
        Sentences.holds(DAYS, lateral, DaySentences::sentToTheOwner);
        Sentences.holds(DAYS, lateral, DaySentences::linkIsRemoved);
        Sentences.holds(DAYS, lateral, DaySentences::eachHasItsOldLink);
        Sentences.holds(DAYS, "Otherwise it comes to the base.", () -> {
            DepotNetwork x = Nets.bases(4);
            x.setLevel(1, 0, 1);
            x.setShare(1, 0, 10);
            x.demand(1, 0, 0);
            x.demand(1, 0, 0);
            x.advance(2);
            Check.is(1, "the day before", x.waiting(1, 0));
            x.advance(1);
            Check.is(0, "one for the customer", x.waiting(1, 0));
            Check.is(1, "one on hand", x.onHand(1, 0));
            Check.is("", "none under way", Nets.units(x));
        });
        Sentences.holds(DAYS, "SUPPLY or LATERAL ends: the unit comes to its owner.",
                DaySentences::arrivals);
        Sentences.holds(DAYS, "A unit that comes to a base fills the demand of the waiting customer"
                + " with the highest priority, of equal ones the one who has waited longest; the"
                + " customer's delay is the present day minus the day of the demand.",
                DaySentences::whoIsServed);
        Sentences.holds(DAYS, "If nobody waits there for this item, the unit is on hand.",
                DaySentences::nobodyWaits);
        Sentences.holds(DAYS, "After that, the number of waiting customers of each base and item is"
                + " added to its backorder days.", DaySentences::countBackorderDays);
    }

    private static void allThatAreDue() {
        DepotNetwork x = Nets.bases(3, 3);
        x.setLevel(2, 0, 1);
        x.setLink(1, 2, 3);
        x.setLateralLimit(3);
        x.demand(1, 0, 0);
        x.setLevel(0, 0, 1);
        x.setShare(1, 0, 10);
        x.demand(1, 0, 0);
        Check.is("3 0 0 0 0, 3 1 0 1 1, 3 2 0 2 2, 3 3 0 1 1", "by kinds", Nets.units(x));
        x.advance(3);
        Check.is("8 1 0 0 0", "all are treated", Nets.units(x));
        Check.is(0, "both customers are served", x.waiting(1, 0));
        Check.is(1, "base 2 has its unit", x.onHand(2, 0));
    }

    private static void returnsBeforeRepairs() {
        DepotNetwork x = new DepotNetwork();
        x.addItem(4, 1, 3);
        x.addItem(4, 1, 3);
        x.addBase(1);
        Nets.demands(x, 2, 1, 0, 0);
        x.advance(4);
        x.demand(1, 1, 0);
        x.advance(1);
        Check.is("6 2 0 1 1, 9 1 1 0 0, 9 1 0 0 0", "item 1 came into REPAIR before item 0",
                Nets.units(x));
    }

    private static void whatCameFirst() {
        DepotNetwork x = new DepotNetwork();
        x.addItem(4, 5, 3);
        x.addItem(4, 5, 3);
        Nets.addBases(x, 3, 5);
        x.demand(2, 1, 0);
        x.advance(2);
        x.demand(1, 0, 0);
        x.demand(1, 1, 0);
        Check.is("5 0 1 0 0, 5 0 0 0 0, 5 0 1 0 0", "in RETURN", Nets.units(x));
        x.advance(3);
        Check.is("9 1 1 0 0, 9 1 0 0 0, 9 1 1 0 0", "in REPAIR", Nets.units(x));
        x.advance(4);
        Check.is("12 2 0 1 1, 12 2 1 1 1, 14 2 1 2 2", "in SUPPLY", Nets.units(x));
    }

    private static void repairPlaces() {
        for (int places = 1; places <= 5; places++) {
            DepotNetwork x = new DepotNetwork();
            x.addItem(30, places, 3);
            x.addBase(1);
            for (int k = 1; k <= 7; k++) {
                x.demand(1, 0, 0);
                x.advance(1);
                Check.is(Math.min(k, places), "in REPAIR", x.underWay(0, 1));
                Check.is(Math.max(0, k - places), "WAITING", x.underWay(0, 4));
            }
            Check.is(31, "due after the depot repair time", x.dueDay(0));
        }
    }

    private static void placesOfItsItem() {
        DepotNetwork x = new DepotNetwork();
        x.addItem(9, 2, 3);
        x.addItem(8, 1, 3);
        x.addBase(1);
        Nets.demands(x, 3, 1, 0, 0);
        x.advance(1);
        x.demand(1, 1, 0);
        x.advance(1);
        Check.is("10 1 0 0 0, 10 1 0 0 0, 10 1 1 0 0", "item 1 has a place", Nets.units(x));
        Check.is(1, "item 0 waits", x.underWay(0, 4));
    }

    private static void repairsAtBasesTakeNoPlace() {
        DepotNetwork x = new DepotNetwork();
        x.addItem(9, 1, 30);
        x.addBase(1);
        x.setShare(1, 0, 10);
        Nets.demands(x, 3, 1, 0, 0);
        x.setShare(1, 0, 0);
        x.demand(1, 0, 0);
        x.advance(1);
        Check.is(4, "in REPAIR", x.underWay(0, 1));
        Check.is(0, "WAITING", x.underWay(0, 4));
    }

    private static void nextIntoRepair() {
        DepotNetwork x = Nets.bases(1);
        x.addItem(3, 1, 1);
        Nets.demands(x, 3, 1, 0, 0);
        Nets.demands(x, 2, 1, 1, 0);
        x.advance(1);
        Check.is(2, "item 0 WAITING", x.underWay(0, 4));
        Check.is(1, "item 1 WAITING", x.underWay(1, 4));
        x.advance(3);
        Check.is(0, "item 1 WAITING on day 4", x.underWay(1, 4));
        Check.is("5 2 1 1 1, 6 1 0 0 0, 7 1 1 0 0", "on day 4", Nets.units(x));
        Check.is(2, "item 0 WAITING on day 4", x.underWay(0, 4));
        x.advance(3);
        Check.is("8 2 1 1 1, 11 1 0 0 0", "on day 7 nothing waits for item 1's place",
                Nets.units(x));
        Check.is(1, "item 0 WAITING on day 7", x.underWay(0, 4));
    }

    private static void fillsAnOrder() {
        DepotNetwork x = new DepotNetwork();
        x.addItem(1, 1, 1);
        x.addItem(1, 1, 1);
        Nets.addBases(x, 2, 3, 4, 5);
        x.demand(1, 0, 3);
        x.demand(2, 0, 8);
        x.demand(3, 0, 8);
        x.demand(4, 1, 9);
        x.advance(3);
        Check.is("4 0 0 0 0, 4 1 0 0 0, 5 0 1 0 0, 6 2 0 2 2", "priority 8, the earliest",
                Nets.units(x));
        x.advance(1);
        Check.is(4, "then the later one of 8", x.nextArrival(3, 0));
        Check.is(-1, "not the one of 3", x.nextArrival(1, 0));
        x.advance(1);
        Check.is(2, "then the one of 3", x.nextArrival(1, 0));
        Check.is(-1, "item 1 has its own units", x.nextArrival(4, 1));
        x.advance(1);
        Check.is(5, "which come later", x.nextArrival(4, 1));
    }

    private static void noOrderIsKept() {
        DepotNetwork x = Nets.bases(1);
        x.addItem(5, 1, 3);
        x.setLevel(0, 0, 1);
        x.demand(1, 1, 0);
        x.advance(1);
        x.demand(1, 0, 0);
        Check.is(0, "none on hand", x.onHand(0, 0));
        x.advance(5);
        Check.is(0, "nor on day 6", x.onHand(0, 0));
        Check.is("7 1 0 0 0, 7 2 1 1 1", "item 1 had an order", Nets.units(x));
        x.advance(1);
        Check.is(1, "on hand on day 7", x.onHand(0, 0));
        Check.is("", "none under way", Nets.units(x));
    }

    /** Base 2 has helped base 1, which repairs the failed unit until day 3; the link takes 2. */
    private static DepotNetwork repairForBase2() {
        DepotNetwork x = Nets.bases(4, 6);
        x.setLevel(2, 0, 1);
        x.setLink(1, 2, 2);
        x.setLateralLimit(2);
        x.setShare(1, 0, 10);
        x.demand(1, 0, 0);
        return x;
    }

    private static void sentToTheOwner() {
        for (int now : new int[] {1, 2, 20}) {
            DepotNetwork x = repairForBase2();
            x.setLink(1, 2, now);
            x.setLateralLimit(0);
            x.advance(2);
            Check.is("3 1 0 1 2", "the day before", Nets.units(x));
            x.advance(1);
            Check.is((3 + now) + " 3 0 2 2", "LATERAL", Nets.units(x));
            Check.is(0, "base 1 is no helper by that", x.helped(1, 0));
            x.setLink(1, 2, 9);
            x.advance(now);
            Check.is(1, "it comes to base 2", x.onHand(2, 0));
            Check.is(0, "and not to base 1", x.onHand(1, 0));
        }
    }

    private static void linkIsRemoved() {
        for (int meanwhile : new int[] {0, 1, 20}) {
            DepotNetwork x = repairForBase2();
            x.setLink(1, 2, meanwhile);
            x.setLink(2, 1, 0);
            x.advance(3);
            Check.is("5 3 0 2 2", "the link of the day of the demand", Nets.units(x));
        }
        DepotNetwork y = repairForBase2();
        y.setLink(1, 2, 0);
        y.advance(2);
        y.setLink(1, 2, 7);
        y.advance(1);
        Check.is("10 3 0 2 2", "there is one again", Nets.units(y));
    }

    private static void eachHasItsOldLink() {
        DepotNetwork x = repairForBase2();
        x.setLevel(2, 0, 2);
        x.setLateralLimit(20);
        x.advance(1);
        x.setLink(1, 2, 5);
        x.demand(1, 0, 0);
        x.setLink(1, 2, 0);
        x.save(0);
        x.advance(3);
        Check.is("5 3 0 2 2, 6 3 0 1 1, 9 3 0 2 2", "2 days, and 5", Nets.units(x));
        x.advance(1);
        x.restore(0);
        x.advance(3);
        Check.is("5 3 0 2 2, 6 3 0 1 1, 9 3 0 2 2", "a saved state has them too", Nets.units(x));
    }

    private static void arrivals() {
        DepotNetwork x = Nets.bases(4, 6);
        x.setLevel(0, 0, 1);
        x.setLevel(1, 0, 1);
        x.setLevel(2, 0, 1);
        x.setLink(1, 2, 3);
        x.setLateralLimit(3);
        x.demand(2, 0, 0);
        x.demand(2, 0, 0);
        Check.is("3 3 0 2 2, 6 0 0 0 0, 6 0 0 0 0, 6 2 0 2 2", "all that is under way",
                Nets.units(x));
        x.advance(3);
        Check.is(0, "LATERAL serves the customer", x.waiting(2, 0));
        x.advance(3);
        Check.is(1, "SUPPLY comes to base 2", x.onHand(2, 0));
        Check.is(0, "and not to base 1", x.onHand(1, 0));
    }

    private static void whoIsServed() {
        DepotNetwork x = Nets.bases(10);
        x.setLevel(0, 0, 3);
        int[] priority = {4, 9, 4};
        for (int p : priority) {
            x.demand(1, 0, p);
            x.advance(1);
        }
        Check.is(9, "topPriority", x.topPriority(1, 0));
        x.advance(7);
        Check.is(9, "priority 9, from day 1 to 10", x.delays(1, 0));
        Check.is(4, "topPriority then", x.topPriority(1, 0));
        x.advance(1);
        Check.is(9 + 11, "then who has waited from day 0 to 11", x.delays(1, 0));
        x.advance(1);
        Check.is(9 + 11 + 10, "then from day 2 to 12", x.delays(1, 0));
        Check.is(0, "nobody waits", x.waiting(1, 0));
        Check.is(0, "none on hand", x.onHand(1, 0));
    }

    private static void nobodyWaits() {
        DepotNetwork x = Nets.bases(2, 2);
        x.addItem(5, 1, 3);
        x.setLevel(0, 0, 1);
        x.setLevel(1, 0, 1);
        x.demand(1, 0, 0);
        x.demand(1, 1, 0);
        x.demand(2, 0, 0);
        x.advance(2);
        Check.is(1, "on hand", x.onHand(1, 0));
        Check.is(1, "who waits for item 1", x.waiting(1, 1));
        Check.is(1, "who waits at base 2", x.waiting(2, 0));
    }

    private static void countBackorderDays() {
        DepotNetwork x = Nets.bases(2, 3);
        x.addItem(5, 1, 3);
        x.setLevel(0, 0, 2);
        x.demand(1, 0, 0);
        x.demand(2, 0, 0);
        x.demand(2, 1, 0);
        x.demand(2, 1, 0);
        int[][] due = {{0, 0, 0}, {1, 1, 2}, {1, 2, 4}, {1, 2, 6}};
        for (int day = 0; day <= 3; day++) {
            Check.is(due[day][0], "base 1, item 0, day " + day, x.backorderDays(1, 0));
            Check.is(due[day][1], "base 2, item 0, day " + day, x.backorderDays(2, 0));
            Check.is(due[day][2], "base 2, item 1, day " + day, x.backorderDays(2, 1));
            Check.is(0, "base 1, item 1, day " + day, x.backorderDays(1, 1));
            x.advance(1);
        }
        DepotNetwork y = Nets.bases(20);
        y.demand(1, 0, 0);
        y.advance(60);
        Check.is(45, "served on day 45", y.delays(1, 0));
        Check.is(44, "counted on the days 1 to 44", y.backorderDays(1, 0));
    }

    // ---- random demands

    private static void randomDemands() {
        Sentences.holds(RANDOM, "A random generator has a state, which is the seed at first.",
                DaySentences::seedAtFirst);
        Sentences.holds(RANDOM, "A draw of m replaces the state s by (s * 1103515245 + 12345)"
                + " modulo 2147483648, computed without overflow, and yields (s / 65536) modulo m"
                + " for the new s.", DaySentences::draws);
        String each = "On each day of a run, after the beginning of the day, for each base by"
                + " ascending number and each item by ascending number: a number is drawn of 100;"
                + " if it is less than the demand rate, a priority is drawn of 10, and a demand"
                + " with it occurs, or is refused.";
        Sentences.holds(RANDOM, each, DaySentences::basesAndItemsAscending);
        Sentences.holds(RANDOM, each, DaySentences::afterTheBeginning);
        Sentences.holds(RANDOM, each, DaySentences::noRateIsDrawnToo);
        Sentences.holds(RANDOM, each, DaySentences::refusedWithItsPriority);
    }

    private static void seedAtFirst() {
        DepotNetwork x = Nets.bases(20);
        x.setRate(1, 0, 100);
        x.run(42, 1);
        Check.is(3, "seed 42", x.topPriority(1, 0));
        x.run(42, 1);
        x.setLevel(1, 0, 1);
        Check.is(3, "seed 42 again", x.topPriority(1, 0));
        x.setLevel(1, 0, 2);
        Check.is(0, "nobody else", x.waiting(1, 0));
        x.run(65535, 1);
        Check.is(0, "seed 65535", x.topPriority(1, 0));
    }

    /** A seed, its first draw of 100, and its second draw of 10, computed elsewhere. */
    private static void draws() {
        int[][] due = {{0, 0, 8}, {1, 38, 8}, {42, 81, 3}, {65535, 38, 0}, {12345, 68, 8},
            {1000000000, 36, 0}, {2147483646, 59, 8}, {2147483647, 29, 9}, {194, 99, 9}, {163, 0, 0}};
        for (int[] d : due) {
            DepotNetwork x = Nets.bases(20);
            x.setRate(1, 0, d[1]);
            Check.is(0, "seed " + d[0] + ", rate " + d[1], x.run(d[0], 1));
            x.setRate(1, 0, d[1] + 1);
            Check.is(1, "seed " + d[0] + ", rate " + (d[1] + 1), x.run(d[0], 1));
            Check.is(d[2], "seed " + d[0] + ", priority", x.topPriority(1, 0));
        }
    }

    private static void basesAndItemsAscending() {
        DepotNetwork x = Nets.bases(20, 20);
        x.addItem(5, 1, 3);
        for (int b = 1; b <= 2; b++) {
            x.setRate(b, 0, 100);
            x.setRate(b, 1, 100);
        }
        Check.is(8, "run", x.run(2147483647, 2));
        int[][] first = {{9, 4}, {9, 8}, {6, 6}, {8, 3}};
        for (int cell = 0; cell < 4; cell++) {
            int b = 1 + cell / 2;
            int i = cell % 2;
            Check.is(2, "two days", x.waiting(b, i));
            Check.is(first[cell][0], "the higher priority", x.topPriority(b, i));
            x.setLevel(b, i, 1);
            Check.is(first[cell][1], "the lower priority", x.topPriority(b, i));
        }
    }

    private static void afterTheBeginning() {
        DepotNetwork x = Nets.bases(1);
        x.setLevel(0, 0, 1);
        x.setLevel(1, 0, 1);
        x.setRate(1, 0, 100);
        x.demand(1, 0, 0);
        x.run(42, 1);
        Check.is(1, "what came on day 1 fills the demand of day 1", x.fillNumerator(1, 0));
        Check.is(1, "both were filled", x.fillDenominator(1, 0));
        DepotNetwork y = Nets.bases(20);
        y.setRate(1, 0, 100);
        y.run(42, 1);
        Check.is(1, "who waits", y.waiting(1, 0));
        Check.is(0, "not counted on its first day", y.backorderDays(1, 0));
        Check.is("21 0 0 0 0", "the demand is of day 1", Nets.units(y));
        y.run(42, 2);
        Check.is(1 + 2, "counted on the days to come", y.backorderDays(1, 0));
    }

    private static void noRateIsDrawnToo() {
        DepotNetwork x = Nets.bases(20, 20);
        x.addItem(5, 1, 3);
        x.setRate(2, 0, 69);
        Check.is(1, "the third draw of seed 7 is 68", x.run(7, 1));
        Check.is(4, "the fourth is its priority", x.topPriority(2, 0));
        x.setRate(2, 0, 68);
        Check.is(0, "68 is not less than 68", x.run(7, 1));
    }

    private static void refusedWithItsPriority() {
        DepotNetwork x = Nets.bases(2);
        x.setLevel(0, 0, 1);
        Nets.demands(x, 100, 1, 0, 0);
        x.setRate(1, 0, 100);
        Check.is(1, "the demand of day 1 is refused", x.run(42, 2));
        Check.is(1, "refusedDemands()", x.refusedDemands());
        Check.is(1, "the fourth draw is the priority of day 2", x.topPriority(1, 0));
        Check.is(100, "who waits", x.waiting(1, 0));
    }

    // ---- promise 13

    private static void advance() {
        Sentences.holds("Promise 13", "Lets days pass.", () -> {
            DepotNetwork x = Nets.bases(2);
            x.setRate(1, 0, 100);
            x.demand(1, 0, 0);
            x.advance(3);
            Check.is(3, "day()", x.day());
            Check.is("7 1 0 0 0", "the unit is treated", Nets.units(x));
            Check.is(1, "no random demands", x.demands(1, 0));
        });
        Sentences.holds("Promise 13", "- `days`: 1 to 60", DaySentences::advanceRange);
        Sentences.holds("Promise 13", "Returns the present day then.", () -> {
            DepotNetwork x = new DepotNetwork();
            Check.is(1, "advance(1)", x.advance(1));
            Check.is(61, "advance(60)", x.advance(60));
            Check.is(61, "day()", x.day());
        });
        Sentences.holds("Promise 13", "Throws `IllegalArgumentException` if days is out of range",
                DaySentences::wrongAdvance);
        Sentences.holds("Promise 13", LAST_DAY, DaySentences::advanceToTheEnd);
    }

    private static void advanceRange() {
        DepotNetwork x = new DepotNetwork();
        SiteSentences.range(1, 60, x::advance);
        DepotNetwork one = Nets.bases(7, 4);
        DepotNetwork many = Nets.bases(7, 4);
        for (int b = 1; b <= 2; b++) {
            Nets.demands(one, 5, b, 0, b);
            Nets.demands(many, 5, b, 0, b);
        }
        for (int d = 0; d < 60; d++) {
            one.advance(1);
        }
        many.advance(60);
        Check.is(Nets.seen(one), "60 days at once, or one by one", Nets.seen(many));
    }

    private static void wrongAdvance() {
        DepotNetwork x = Nets.busy();
        String before = Nets.seen(x);
        for (int days : new int[] {0, 61, -1, Integer.MIN_VALUE, Integer.MAX_VALUE}) {
            Check.argument("advance(" + days + ")", () -> x.advance(days));
        }
        Check.is(before, "no day passes", Nets.seen(x));
    }

    private static void advanceToTheEnd() {
        DepotNetwork x = Nets.bases(20);
        Nets.toDay(x, 9939);
        x.save(0);
        Check.is(9999, "60 days to the last one", x.advance(60));
        Check.state("no day more", () -> x.advance(1));
        Check.state("nor 60", () -> x.advance(60));
        Check.is(9999, "day()", x.day());
        Check.is(false, "the last day is a day like others", x.demand(1, 0, 3));
        Check.is(3, "the customer waits", x.topPriority(1, 0));
        Check.is(1, "the order is kept", x.keptOrders(0));
        Check.is(10019, "a due day may lie beyond", x.dueDay(0));
        x.restore(0);
        x.advance(1);
        x.demand(1, 0, 0);
        String before = Nets.seen(x);
        Check.state("60 days from day 9940", () -> x.advance(60));
        Check.is(before, "not even one day passes", Nets.seen(x));
        Check.is(9999, "59 do", x.advance(59));
    }

    // ---- promises 14 to 16

    private static void run() {
        Sentences.holds("Promise 14", "Lets days pass with random demands.", () -> {
            DepotNetwork x = Nets.bases(2);
            x.setRate(1, 0, 100);
            x.run(5, 3);
            Check.is(3, "day()", x.day());
            Check.is(3, "demands", x.demands(1, 0));
            Check.is("4 0 0 0 0, 5 0 0 0 0, 8 1 0 0 0", "one each day", Nets.units(x));
        });
        Sentences.holds("Promise 14", "- `seed`: 0 to 2147483647", () -> {
            DepotNetwork x = Nets.bases(2);
            Check.happens("0", () -> x.run(0, 1));
            Check.happens("2147483647", () -> x.run(2147483647, 1));
            Check.argument("-1", () -> x.run(-1, 1));
            Check.argument("-2147483648", () -> x.run(Integer.MIN_VALUE, 1));
        });
        Sentences.holds("Promise 14", "- `days`: 1 to 30", () -> {
            DepotNetwork x = Nets.bases(2);
            SiteSentences.range(1, 30, days -> x.run(0, days));
            Check.is(31, "day()", x.day());
        });
        Sentences.holds("Promise 14", "Returns the number of demands that were not refused.",
                DaySentences::runAnswers);
        Sentences.holds("Promise 14",
                "Throws `IllegalArgumentException` if an argument is out of range",
                DaySentences::wrongRun);
        Sentences.holds("Promise 14", LAST_DAY, DaySentences::runToTheEnd);
        Sentences.holds("Promise 15", "Returns the present day.", () -> {
            DepotNetwork x = new DepotNetwork();
            Check.is(0, "at first", x.day());
            x.advance(7);
            Check.is(7, "after advance", x.day());
            x.run(0, 5);
            Check.is(12, "after run", x.day());
            Check.state("nothing saved", () -> {
                x.restore(0);
                return 0;
            });
            Check.is(12, "after a refused call", x.day());
        });
        Sentences.holds("Promise 16",
                "Returns the number of random demands that have been refused so far.",
                DaySentences::countRefused);
    }

    /** Nothing comes before day 46: from the 25th day on, 100 customers wait. */
    private static DepotNetwork crowded() {
        DepotNetwork x = new DepotNetwork();
        for (int i = 0; i < 4; i++) {
            x.addItem(5, 1, 3);
        }
        x.addBase(20);
        for (int i = 0; i < 4; i++) {
            x.setRate(1, i, 100);
        }
        return x;
    }

    private static void runAnswers() {
        DepotNetwork x = crowded();
        Check.is(4 * 25, "25 days", x.run(3, 30));
        Check.is(100, "under way", Nets.underWay(x));
        Check.is(0, "all are refused", x.run(4, 10));
        DepotNetwork y = crowded();
        for (int i = 0; i < 4; i++) {
            y.setRate(1, i, 0);
        }
        Check.is(0, "no rate", y.run(3, 30));
        DepotNetwork z = crowded();
        z.setLevel(1, 0, 20);
        Check.is(120, "those filled at once included", z.run(3, 30));
        Check.is(0, "none refused yet", z.refusedDemands());
        Check.is(0, "no base", new DepotNetwork().run(3, 30));
    }

    private static void wrongRun() {
        DepotNetwork x = Nets.busy();
        String before = Nets.seen(x);
        Check.argument("seed -1", () -> x.run(-1, 1));
        for (int days : new int[] {0, 31, -1, Integer.MIN_VALUE, Integer.MAX_VALUE}) {
            Check.argument("days " + days, () -> x.run(1, days));
        }
        Check.is(before, "no day passes", Nets.seen(x));
    }

    private static void runToTheEnd() {
        DepotNetwork x = Nets.bases(20);
        Nets.toDay(x, 9969);
        x.setRate(1, 0, 100);
        x.save(0);
        Check.is(30, "30 days to the last one", x.run(0, 30));
        Check.is(9999, "day()", x.day());
        Check.state("no day more", () -> x.run(0, 1));
        Check.state("nor 30", () -> x.run(0, 30));
        x.restore(0);
        x.advance(1);
        String before = Nets.seen(x);
        Check.state("30 days from day 9970", () -> x.run(0, 30));
        Check.is(before, "not even one day passes", Nets.seen(x));
        Check.is(29, "29 do", x.run(0, 29));
    }

    private static void countRefused() {
        DepotNetwork x = crowded();
        Check.is(0, "at first", x.refusedDemands());
        x.run(3, 25);
        Check.is(0, "none yet", x.refusedDemands());
        x.run(3, 1);
        Check.is(4, "those of a day", x.refusedDemands());
        x.run(3, 10);
        Check.is(44, "and of ten more", x.refusedDemands());
        Check.state("demand", () -> x.demand(1, 0, 0));
        Check.is(44, "that was no random one", x.refusedDemands());
        x.bestSite(0, 1, 10);
        Check.is(44, "a trial does not count", x.refusedDemands());
        Check.is(100, "they are no demands", x.demands(-1, -1));
        x.setRate(1, 3, 0);
        x.run(3, 1);
        Check.is(47, "three a day", x.refusedDemands());
    }
}
