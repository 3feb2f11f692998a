/** The sentences on units under way and on demands, and of promise 12. */
final class DemandSentences {
    private static final String UNITS = "UNITS UNDER WAY";
    private static final String DEMANDS = "DEMANDS";
    private static final String TWELVE = "Promise 12";

    private DemandSentences() {
    }

    static void all() {
        unitsUnderWay();
        demands();
        promise();
    }

    // ---- units under way

    private static void unitsUnderWay() {
        Sentences.holds("What it is", "All units are accounted for at any time.",
                DemandSentences::allAccountedFor);
        Sentences.holds(UNITS, "A unit that is not on hand is under way.",
                DemandSentences::onHandOrUnderWay);
        Sentences.holds(UNITS, "It has an owner, which is a site, and it is in one of these kinds"
                + " of state:", DemandSentences::ownersAndKinds);
        Sentences.holds(UNITS, "0 RETURN a failed unit on its way from a base to the depot (the"
                + " owner is the depot)", () -> {
                    DepotNetwork x = Nets.bases(4);
                    x.setLevel(1, 0, 1);
                    x.demand(1, 0, 0);
                    Check.is("4 0 0 0 0", "the failed unit", Nets.units(x));
                });
        Sentences.holds(UNITS, "1 REPAIR a unit in a repair place, at the depot (the owner is the"
                + " depot) or at a base", DemandSentences::repairs);
        Sentences.holds(UNITS, "2 SUPPLY a unit on its way from the depot to its owner, a base",
                () -> {
                    DepotNetwork x = Nets.bases(4, 6);
                    x.demand(2, 0, 0);
                    x.setLevel(0, 0, 1);
                    Check.is("6 0 0 0 0, 6 2 0 2 2", "RETURN and SUPPLY", Nets.units(x));
                });
        Sentences.holds(UNITS, "3 LATERAL a unit on its way from one base to another one, its"
                + " owner", () -> {
                    DepotNetwork x = helped(2);
                    Check.is("2 3 0 1 1, 4 0 0 0 0", "LATERAL and RETURN", Nets.units(x));
                });
        Sentences.holds(UNITS, "4 WAITING a failed unit that waits at the depot for a repair place"
                + " (the owner is the depot)", DemandSentences::waitingUnits);
        Sentences.holds(UNITS, "In the kinds 0 to 3 the unit has a due day, on which the state"
                + " ends; units in the kind 4 wait in the order in which they came.",
                DemandSentences::dueDays);
    }

    /** Base 2 helps base 1, which has a lead time of 4; the link has the given one. */
    private static DepotNetwork helped(int link) {
        DepotNetwork x = Nets.bases(4, 6);
        x.setLevel(2, 0, 1);
        x.setLink(1, 2, link);
        x.setLateralLimit(20);
        x.demand(1, 0, 0);
        return x;
    }

    private static void allAccountedFor() {
        DepotNetwork x = Nets.busy();
        x.setRate(3, 1, 100);
        for (int k = 0; k < 40; k++) {
            x.run(k, 3);
            x.setLevel(k % 4, k % 2, 20);
            x.setLink(1, 2, k % 5);
            for (int i = 0; i < 2; i++) {
                int owned = 0;
                for (int s = 0; s <= 3; s++) {
                    owned += x.level(s, i);
                }
                Check.is(owned, "fleet", x.fleet(i));
                for (int b = 1; b <= 3; b++) {
                    Check.is(x.level(b, i), "position", x.position(b, i));
                }
            }
        }
    }

    private static void onHandOrUnderWay() {
        DepotNetwork x = Nets.bases(2);
        x.setLevel(1, 0, 3);
        x.setLevel(0, 0, 2);
        for (int day = 0; day < 30; day++) {
            if (day % 4 == 0) {
                x.demand(1, 0, 0);
            }
            Check.is(5 + x.waiting(1, 0), "on hand or under way",
                    x.onHand(0, 0) + x.onHand(1, 0) + Nets.underWay(x));
            x.advance(1);
        }
    }

    private static void ownersAndKinds() {
        DepotNetwork x = Nets.busy();
        for (int day = 0; day < 20; day++) {
            for (int k = 0; k < x.dueCount(); k++) {
                int kind = x.dueKind(k);
                int owner = x.dueOwner(k);
                Check.is(true, "kind", kind >= 0 && kind <= 3);
                Check.is(true, "owner", owner >= 0 && owner <= 3);
                Check.is(kind == 0 || kind == 1 && x.dueSite(k) == 0, "the depot owns",
                        owner == 0);
            }
            x.advance(1);
        }
    }

    private static void repairs() {
        DepotNetwork x = Nets.bases(4);
        x.demand(1, 0, 0);
        x.advance(4);
        Check.is("9 1 0 0 0", "at the depot", Nets.units(x));
        x.setShare(1, 0, 10);
        x.demand(1, 0, 0);
        Check.is("7 1 0 1 1, 9 1 0 0 0", "and at the base", Nets.units(x));
    }

    private static void waitingUnits() {
        DepotNetwork x = Nets.bases(2);
        Nets.demands(x, 3, 1, 0, 0);
        x.advance(2);
        Check.is(2, "WAITING", x.underWay(0, 4));
        Check.is("7 1 0 0 0", "only the one in REPAIR has a due day", Nets.units(x));
        Check.is(3, "what base 1 expects are its orders alone", x.dueIn(1, 0));
        x.advance(5);
        Check.is(1, "WAITING after a repair", x.underWay(0, 4));
    }

    private static void dueDays() {
        DepotNetwork x = Nets.bases(2);
        x.addItem(4, 1, 3);
        x.demand(1, 1, 0);
        x.demand(1, 0, 0);
        x.demand(1, 0, 0);
        x.demand(1, 1, 0);
        x.advance(1);
        Check.is(4, "not before the due day", x.underWay(0, 0) + x.underWay(1, 0));
        x.advance(1);
        Check.is("6 1 1 0 0, 7 1 0 0 0", "on the due day", Nets.units(x));
        x.advance(4);
        Check.is("7 1 0 0 0, 8 2 1 1 1, 10 1 1 0 0", "the first of item 1 waits no more",
                Nets.units(x));
        Check.is(1, "item 0 waits still", x.underWay(0, 4));
    }

    // ---- demands

    private static void demands() {
        Sentences.holds(DEMANDS, "A demand for an item occurs at a base, on the present day, with a"
                + " priority (0 to 9).", DemandSentences::onThePresentDay);
        Sentences.noRule(DEMANDS, "It takes place in this order:");
        Sentences.holds(DEMANDS, "1. The demands of the base and item are numbered from 1 on.",
                DemandSentences::numberedApart);
        Sentences.holds(DEMANDS, "The failed unit of demand f is repaired at the base if (f *"
                + " share) / 10 is greater than ((f - 1) * share) / 10 (both rounded down),"
                + " otherwise it is returned.", DemandSentences::shares);
        Sentences.holds(DEMANDS, "2. If the base has units on hand, the demand is filled at once:"
                + " there is one unit less on hand, and the buyer of the new unit is the base"
                + " itself.", DemandSentences::filledAtOnce);
        String helper = "Otherwise a customer waits at the base (a backorder), and a helper is"
                + " sought: of all other bases that are linked to this base by a lead time of at"
                + " most the lateral limit, and that have more units on hand than their reserve,"
                + " the one with the lowest lead time of the link; of equal ones the one with more"
                + " units on hand; then the one with the lower number.";
        Sentences.holds(DEMANDS, helper, DemandSentences::customerWaits);
        Sentences.holds(DEMANDS, helper, DemandSentences::withinTheLimit);
        Sentences.holds(DEMANDS, helper, DemandSentences::linkedToThisBase);
        Sentences.holds(DEMANDS, helper, DemandSentences::aboveTheReserve);
        Sentences.holds(DEMANDS, helper, DemandSentences::lowestLeadTime);
        Sentences.holds(DEMANDS, helper, DemandSentences::moreOnHand);
        Sentences.holds(DEMANDS, helper, DemandSentences::lowerNumber);
        Sentences.holds(DEMANDS, helper, DemandSentences::ofAllOtherBases);
        Sentences.holds(DEMANDS, "If there is a helper, it sends a unit to the base (LATERAL, due"
                + " after the lead time of the link), and the buyer of the new unit is the"
                + " helper.", DemandSentences::helperSends);
        Sentences.holds(DEMANDS, "If there is none, the buyer is the base itself.",
                DemandSentences::noHelper);
        Sentences.holds(DEMANDS, "3. If the failed unit is repaired at the base, it is in REPAIR"
                + " there, due after the local repair time, and its owner is the buyer.",
                DemandSentences::repairedAtTheBase);
        String otherwise = "Otherwise it is in RETURN, due after the lead time of the base, and the"
                + " buyer orders a unit at the depot with the priority of the demand: if the depot"
                + " has units on hand, one of them is sent to the buyer (SUPPLY, due after the lead"
                + " time of the buyer); otherwise the order is kept at the depot.";
        Sentences.holds(DEMANDS, otherwise, DemandSentences::returned);
        Sentences.holds(DEMANDS, otherwise, DemandSentences::orderHasThePriority);
        String refused = "A demand is refused if 200 or more units are under way, or 100 or more"
                + " customers wait (of all sites and items together).";
        Sentences.holds(DEMANDS, refused, DemandSentences::refusedByReturns);
        Sentences.holds(DEMANDS, refused, DemandSentences::refusedByRepairs);
        Sentences.holds(DEMANDS, refused, DemandSentences::refusedBySupplies);
        Sentences.holds(DEMANDS, refused, DemandSentences::refusedByLaterals);
        Sentences.holds(DEMANDS, refused, DemandSentences::refusedByWaitingUnits);
        Sentences.holds(DEMANDS, refused, DemandSentences::refusedByMoreThan200);
        Sentences.holds(DEMANDS, refused, DemandSentences::refusedByCustomers);
    }

    private static void onThePresentDay() {
        DepotNetwork x = Nets.bases(4);
        x.advance(60);
        x.demand(1, 0, 9);
        Check.is("64 0 0 0 0", "from day 60 on", Nets.units(x));
        x.advance(2);
        x.setLevel(1, 0, 1);
        Check.is(2, "the delay from day 60 on", x.delays(1, 0));
        SiteSentences.range(0, 9, p -> x.demand(1, 0, p) ? 1 : 0);
    }

    private static void numberedApart() {
        DepotNetwork x = Nets.bases(20, 20);
        x.addItem(5, 1, 20);
        for (int b = 1; b <= 2; b++) {
            for (int i = 0; i < 2; i++) {
                x.setShare(b, i, 5);
            }
        }
        x.demand(1, 0, 0);
        x.demand(2, 0, 0);
        x.demand(1, 1, 0);
        x.demand(2, 1, 0);
        Check.is(4, "the first of each is returned", x.underWay(0, 0) + x.underWay(1, 0));
        x.demand(2, 1, 0);
        Check.is(1, "the second of base 2 and item 1", x.underWay(1, 1));
        x.demand(1, 0, 0);
        Check.is(1, "the second of base 1 and item 0", x.underWay(0, 1));
        DepotNetwork y = Nets.bases(20);
        y.demand(1, 0, 0);
        y.setShare(1, 0, 5);
        y.demand(1, 0, 0);
        Check.is(1, "the number goes on when the share changes", y.underWay(0, 1));
    }

    private static void shares() {
        String[] due = {"rrrrrrrrrr", "rrrrrrrrrL", "rrrrLrrrrL", "rrrLrrLrrL", "rrLrLrrLrL",
            "rLrLrLrLrL", "rLrLLrLrLL", "rLLrLLrLLL", "rLLLLrLLLL", "rLLLLLLLLL", "LLLLLLLLLL"};
        for (int share = 0; share <= 10; share++) {
            DepotNetwork x = Nets.bases(20);
            x.setShare(1, 0, share);
            StringBuilder got = new StringBuilder();
            for (int f = 1; f <= 20; f++) {
                int repairs = x.underWay(0, 1);
                x.demand(1, 0, 0);
                got.append(x.underWay(0, 1) > repairs ? 'L' : 'r');
            }
            Check.is(due[share] + due[share], "share " + share, got.toString());
        }
    }

    private static void filledAtOnce() {
        DepotNetwork x = Nets.bases(4, 6);
        x.setLevel(1, 0, 2);
        x.setLevel(2, 0, 5);
        x.setLink(1, 2, 1);
        x.setLateralLimit(20);
        Check.is(true, "two on hand", x.demand(1, 0, 0));
        Check.is(1, "one less", x.onHand(1, 0));
        Check.is(true, "the last one", x.demand(1, 0, 0));
        Check.is(0, "none on hand", x.onHand(1, 0));
        Check.is(0, "nobody waits", x.waiting(1, 0));
        Check.is(0, "no helper is sought", x.helped(2, 0));
        Check.is(2, "the base has ordered", x.dueIn(1, 0));
        Check.is(0, "and nobody else", x.dueIn(2, 0));
    }

    private static void customerWaits() {
        DepotNetwork x = Nets.bases(4);
        x.setLevel(0, 0, 5);
        Check.is(false, "none on hand", x.demand(1, 0, 7));
        Check.is(1, "who waits", x.waiting(1, 0));
        Check.is(7, "with the priority", x.topPriority(1, 0));
        Check.is(0, "not below 0 on hand", x.onHand(1, 0));
    }

    private static void withinTheLimit() {
        DepotNetwork x = Nets.bases(4, 6);
        x.setLevel(2, 0, 9);
        x.setLink(1, 2, 7);
        x.setLateralLimit(6);
        x.demand(1, 0, 0);
        Check.is(0, "a day too far", x.helped(2, 0));
        x.setLateralLimit(7);
        x.demand(1, 0, 0);
        Check.is(1, "just near enough", x.helped(2, 0));
        x.setLink(1, 2, 20);
        x.setLateralLimit(19);
        x.demand(1, 0, 0);
        Check.is(1, "20 is too far for 19", x.helped(2, 0));
        x.setLateralLimit(20);
        x.demand(1, 0, 0);
        Check.is(2, "and near enough for 20", x.helped(2, 0));
        x.setLink(1, 2, 1);
        x.setLateralLimit(0);
        x.demand(1, 0, 0);
        Check.is(2, "none within 0", x.helped(2, 0));
    }

    private static void linkedToThisBase() {
        DepotNetwork x = Nets.bases(4, 6, 5);
        x.setLevel(0, 0, 9);
        x.setLevel(2, 0, 9);
        x.setLevel(3, 0, 9);
        x.setLink(2, 3, 1);
        x.setLateralLimit(20);
        x.demand(1, 0, 0);
        Check.is(0, "no link to base 1", x.helped(-1, -1));
        x.setLink(1, 3, 20);
        x.demand(1, 0, 0);
        Check.is(1, "only base 3 is linked to it", x.helped(3, 0));
        Check.is(0, "base 2 is not", x.helped(2, 0));
    }

    private static void aboveTheReserve() {
        DepotNetwork x = Nets.bases(4, 6);
        x.addItem(1, 1, 1);
        x.setLevel(2, 0, 3);
        x.setLevel(2, 1, 20);
        x.setLink(1, 2, 1);
        x.setLateralLimit(20);
        x.setReserve(2, 0, 3);
        x.demand(1, 0, 0);
        Check.is(0, "3 on hand, a reserve of 3", x.helped(2, 0));
        x.setReserve(2, 0, 2);
        x.demand(1, 0, 0);
        Check.is(1, "3 on hand, a reserve of 2", x.helped(2, 0));
        x.demand(1, 0, 0);
        Check.is(1, "2 on hand, a reserve of 2", x.helped(2, 0));
        x.setReserve(2, 0, 0);
        x.demand(1, 0, 0);
        x.demand(1, 0, 0);
        Check.is(3, "no reserve: the last one too", x.helped(2, 0));
        x.demand(1, 0, 0);
        Check.is(3, "none on hand", x.helped(2, 0));
        x.setReserve(2, 1, 20);
        x.demand(1, 1, 0);
        Check.is(0, "20 on hand, a reserve of 20", x.helped(2, 1));
        x.setReserve(2, 1, 19);
        x.demand(1, 1, 0);
        Check.is(1, "20 on hand, a reserve of 19", x.helped(2, 1));
        x.setReserve(2, 1, 20);
        Check.is(true, "the base itself uses its reserve", x.demand(2, 1, 0));
    }

    private static void lowestLeadTime() {
        DepotNetwork x = Nets.bases(4, 4, 4, 4);
        x.setLevel(2, 0, 9);
        x.setLevel(3, 0, 1);
        x.setLevel(4, 0, 9);
        x.setLink(1, 2, 3);
        x.setLink(1, 3, 2);
        x.setLink(1, 4, 3);
        x.setLateralLimit(20);
        x.demand(1, 0, 0);
        Check.is(1, "base 3, though it has the fewest", x.helped(3, 0));
        x.setLink(1, 4, 1);
        x.demand(1, 0, 0);
        Check.is(1, "base 4", x.helped(4, 0));
        x.setLink(1, 4, 4);
        x.demand(1, 0, 0);
        Check.is(1, "base 2", x.helped(2, 0));
    }

    private static void moreOnHand() {
        DepotNetwork x = Nets.bases(4, 4, 4, 4);
        x.setLevel(2, 0, 4);
        x.setLevel(3, 0, 6);
        x.setLevel(4, 0, 5);
        x.setReserve(3, 0, 5);
        for (int b = 2; b <= 4; b++) {
            x.setLink(1, b, 2);
        }
        x.setLateralLimit(2);
        x.demand(1, 0, 0);
        Check.is(1, "base 3: what is on hand counts, not what is to spare", x.helped(3, 0));
        x.setReserve(3, 0, 0);
        x.setLevel(4, 0, 6);
        x.demand(1, 0, 0);
        Check.is(1, "base 4 has 6, base 3 has 5", x.helped(4, 0));
        x.setLevel(2, 0, 9);
        x.demand(1, 0, 0);
        Check.is(1, "base 2 has 9", x.helped(2, 0));
        x.setLevel(3, 0, 20);
        x.setLevel(4, 0, 20);
        Nets.demands(x, 18, 3, 0, 0);
        Nets.demands(x, 18, 4, 0, 0);
        x.demand(1, 0, 0);
        Check.is(2, "base 2 has 8, the others have a higher level", x.helped(2, 0));
    }

    private static void lowerNumber() {
        DepotNetwork x = Nets.bases(4, 4, 4, 4);
        for (int b : new int[] {1, 3, 4}) {
            x.setLevel(b, 0, 1);
            x.setLink(2, b, 2);
        }
        x.setLateralLimit(2);
        int[] due = {1, 3, 4};
        for (int b : due) {
            x.demand(2, 0, 0);
            Check.is(1, "base " + b + " is next", x.helped(b, 0));
        }
        Check.is(3, "three helped", x.helped(-1, -1));
    }

    /** Seven bases, all linked: every one can help every other one. */
    private static void ofAllOtherBases() {
        for (int base = 1; base <= 7; base++) {
            for (int only = 1; only <= 7; only++) {
                DepotNetwork x = Nets.bases(4, 4, 4, 4, 4, 4, 4);
                for (int a = 1; a <= 7; a++) {
                    for (int b = a + 1; b <= 7; b++) {
                        x.setLink(a, b, 1);
                    }
                }
                x.setLateralLimit(1);
                x.setLevel(only, 0, 1);
                Check.is(base == only, "on hand at " + only, x.demand(base, 0, 0));
                Check.is(base == only ? 0 : 1, "help from " + only, x.helped(only, 0));
                Check.is(0, "on hand there then", x.onHand(only, 0));
            }
        }
    }

    private static void helperSends() {
        DepotNetwork x = Nets.bases(4, 6);
        x.setLevel(2, 0, 2);
        x.setLevel(0, 0, 1);
        x.setLink(1, 2, 3);
        x.setLateralLimit(3);
        x.advance(1);
        Check.is(false, "the customer waits nevertheless", x.demand(1, 0, 0));
        Check.is(1, "waiting", x.waiting(1, 0));
        Check.is(1, "one less at the helper", x.onHand(2, 0));
        Check.is("4 3 0 1 1, 5 0 0 0 0, 7 2 0 2 2", "LATERAL, RETURN, SUPPLY", Nets.units(x));
        x.demand(1, 0, 0);
        Check.is(1, "the depot has none: an order of the helper", x.keptOrders(0));
        Check.is(2, "what the helper expects", x.dueIn(2, 0));
        Check.is(2, "what the base expects", x.dueIn(1, 0));
        x.advance(3);
        Check.is(0, "both are served", x.waiting(1, 0));
        Check.is(6, "after 3 days each", x.delays(1, 0));
    }

    private static void noHelper() {
        DepotNetwork x = Nets.bases(4, 6);
        x.setLevel(0, 0, 1);
        x.demand(1, 0, 0);
        Check.is("4 0 0 0 0, 4 2 0 1 1", "the depot supplies the base", Nets.units(x));
        x.demand(1, 0, 0);
        Check.is(2, "and the base has ordered once more", x.dueIn(1, 0));
        x.setShare(1, 0, 10);
        x.demand(1, 0, 0);
        Check.is("3 1 0 1 1, 4 0 0 0 0, 4 0 0 0 0, 4 2 0 1 1", "its own repair", Nets.units(x));
    }

    private static void repairedAtTheBase() {
        DepotNetwork x = Nets.bases(4, 6);
        x.setLevel(0, 0, 1);
        x.setLevel(1, 0, 1);
        x.setLevel(2, 0, 1);
        x.setShare(1, 0, 10);
        x.setLink(1, 2, 8);
        x.setLateralLimit(8);
        x.advance(2);
        x.demand(1, 0, 0);
        Check.is("5 1 0 1 1", "filled at once: the base is the buyer", Nets.units(x));
        x.demand(1, 0, 0);
        Check.is("5 1 0 1 1, 5 1 0 1 2, 10 3 0 1 1", "helped: the helper", Nets.units(x));
        x.demand(1, 0, 0);
        Check.is("5 1 0 1 1, 5 1 0 1 2, 5 1 0 1 1, 10 3 0 1 1", "no helper: the base",
                Nets.units(x));
        Check.is(0, "nothing is ordered", x.keptOrders(0));
        Check.is(1, "nor sent", x.onHand(0, 0));
    }

    private static void returned() {
        DepotNetwork x = Nets.bases(4, 6);
        x.setLevel(0, 0, 2);
        x.setLevel(1, 0, 1);
        x.advance(3);
        x.demand(1, 0, 0);
        Check.is("7 0 0 0 0, 7 2 0 1 1", "RETURN and SUPPLY", Nets.units(x));
        Check.is(1, "one less at the depot", x.onHand(0, 0));
        x.demand(2, 0, 0);
        Check.is("7 0 0 0 0, 7 2 0 1 1, 9 0 0 0 0, 9 2 0 2 2", "the last one", Nets.units(x));
        Check.is(0, "none on hand", x.onHand(0, 0));
        Check.is(0, "no order is kept", x.keptOrders(0));
        x.demand(1, 0, 0);
        Check.is(1, "now one is kept", x.keptOrders(0));
        Check.is(0, "not below 0 on hand", x.onHand(0, 0));
        Check.is(2, "what base 1 expects", x.dueIn(1, 0));
    }

    private static void orderHasThePriority() {
        DepotNetwork x = Nets.bases(4, 6, 5);
        x.setLevel(3, 0, 1);
        x.setLink(1, 3, 20);
        x.setLateralLimit(20);
        x.demand(2, 0, 5);
        x.demand(1, 0, 6);
        x.setLevel(0, 0, 1);
        Check.is(5, "the helper's order has priority 6", x.nextArrival(3, 0));
        Check.is(-1, "the one of 5 is kept", x.nextArrival(2, 0));
    }

    private static void refusedByReturns() {
        DepotNetwork x = Nets.full(20);
        for (int k = 0; k < 199; k++) {
            x.demand(1 + k % 7, k % 4, 0);
        }
        Check.is(199, "RETURN", Nets.underWay(x));
        Check.is(true, "199 are under way", x.demand(7, 3, 0));
        Check.state("200 are under way", () -> x.demand(1, 0, 0));
        Check.state("at another base too", () -> x.demand(6, 2, 9));
        Check.is(200, "no demand more", x.demands(-1, -1));
    }

    private static void refusedByRepairs() {
        DepotNetwork x = Nets.full(20);
        for (int b = 1; b <= 7; b++) {
            for (int i = 0; i < 4; i++) {
                x.setShare(b, i, 10);
            }
        }
        for (int k = 0; k < 199; k++) {
            x.demand(1 + k % 7, k % 4, 0);
        }
        Check.is(true, "199 are under way", x.demand(7, 3, 0));
        Check.state("200 are under way", () -> x.demand(1, 0, 0));
        x.advance(30);
        Check.is(0, "all are repaired", Nets.underWay(x));
        Check.is(true, "and there is room", x.demand(1, 0, 0));
    }

    private static void refusedBySupplies() {
        DepotNetwork x = Nets.full(20);
        for (int i = 0; i < 4; i++) {
            x.setLevel(0, i, 20);
        }
        for (int k = 0; k < 99; k++) {
            x.demand(1 + k % 7, k % 4, 0);
        }
        Check.is(99 + 80, "RETURN and SUPPLY", Nets.underWay(x));
        for (int k = 0; k < 20; k++) {
            x.demand(1 + k % 7, k % 4, 0);
        }
        Check.is(true, "199 are under way", x.demand(7, 3, 0));
        Check.state("200 are under way", () -> x.demand(1, 0, 0));
    }

    private static void refusedByLaterals() {
        DepotNetwork x = Nets.full(20);
        x.setLateralLimit(20);
        for (int i = 0; i < 4; i++) {
            x.setLevel(1, i, 0);
        }
        for (int b = 2; b <= 7; b++) {
            x.setLink(1, b, 20);
        }
        for (int k = 0; k < 99; k++) {
            x.demand(1, k % 4, 0);
        }
        Check.is(198, "RETURN and LATERAL", Nets.underWay(x));
        Check.is(99, "customers", x.waiting(1, 0) + x.waiting(1, 1) + x.waiting(1, 2)
                + x.waiting(1, 3));
        x.demand(2, 0, 0);
        Check.is(true, "199 are under way", x.demand(2, 0, 0));
        Check.state("200 are under way", () -> x.demand(2, 0, 0));
    }

    private static void refusedByWaitingUnits() {
        DepotNetwork x = Nets.full(1);
        for (int k = 0; k < 199; k++) {
            x.demand(1 + k % 7, k % 4, 0);
        }
        x.advance(1);
        Check.is(4, "in REPAIR", x.dueCount());
        Check.is(true, "199 are under way", x.demand(7, 3, 0));
        Check.state("200 are under way", () -> x.demand(1, 0, 0));
    }

    private static void refusedByMoreThan200() {
        DepotNetwork x = Nets.full(20);
        for (int k = 0; k < 199; k++) {
            x.demand(1 + k % 7, k % 4, 0);
        }
        x.setLevel(0, 0, 20);
        Check.is(219, "20 kept orders are filled", Nets.underWay(x));
        Check.state("219 are under way", () -> x.demand(1, 0, 0));
        for (int i = 1; i < 4; i++) {
            x.setLevel(0, i, 20);
        }
        Check.is(279, "80 kept orders are filled", Nets.underWay(x));
        Check.state("279 are under way", () -> x.demand(1, 0, 0));
        helpBeyond200();
        theMostUnderWay();
    }

    /** The last demand may bring three units under way at once. */
    private static void helpBeyond200() {
        DepotNetwork x = Nets.full(20);
        for (int k = 0; k < 199; k++) {
            x.demand(2 + k % 6, k / 6 % 3, 0);
        }
        x.setLevel(0, 3, 1);
        x.setLevel(1, 3, 0);
        x.setLink(1, 7, 20);
        x.setLateralLimit(20);
        Check.is(false, "199 are under way", x.demand(1, 3, 0));
        Check.is(202, "RETURN, SUPPLY and LATERAL", Nets.underWay(x));
        Check.state("202 are under way", () -> x.demand(2, 0, 0));
        for (int i = 0; i < 4; i++) {
            x.setLevel(0, i, 20);
        }
        Check.is(202 + 60, "the kept orders of three items", Nets.underWay(x));
        Check.is(202 + 60, "all have a due day", x.dueCount());
    }

    /** The last demand brings two, and then the depot buys 20 of each item for kept orders. */
    private static void theMostUnderWay() {
        DepotNetwork x = Nets.full(20);
        for (int k = 0; k < 199; k++) {
            x.demand(2 + k % 6, k / 6 % 4, k % 10);
        }
        x.setLevel(1, 3, 0);
        x.setLink(1, 7, 20);
        x.setLateralLimit(20);
        Check.is(false, "199 are under way", x.demand(1, 3, 0));
        for (int i = 0; i < 4; i++) {
            x.setLevel(0, i, 20);
        }
        Check.is(201 + 80, "under way", x.dueCount());
        Check.state("no demand more", () -> x.demand(1, 0, 0));
        x.advance(19);
        Check.is(281, "the day before they come", x.dueCount());
        x.advance(1);
        Check.is(200, "RETURN has ended, 80 and one have come", Nets.underWay(x));
        Check.is(4, "in REPAIR", x.dueCount());
        for (int i = 0; i < 4; i++) {
            Check.is(i < 3 ? 160 : 140, "fleet", x.fleet(i));
            for (int b = 1; b <= 7; b++) {
                Check.is(x.level(b, i), "position", x.position(b, i));
            }
        }
    }

    private static void refusedByCustomers() {
        DepotNetwork x = Nets.full(20);
        for (int b = 1; b <= 7; b++) {
            for (int i = 0; i < 3; i++) {
                x.setLevel(b, i, 0);
            }
        }
        for (int k = 0; k < 99; k++) {
            x.demand(1 + k % 7, k % 3, k % 10);
        }
        Check.is(true, "99 wait, and one is filled", x.demand(1, 3, 0));
        Check.is(false, "99 wait", x.demand(1, 0, 0));
        Check.state("100 wait", () -> x.demand(1, 0, 0));
        Check.state("also where a unit is on hand", () -> x.demand(1, 3, 0));
        Check.is(101, "which are not too many units", Nets.underWay(x));
        x.setLevel(7, 2, 1);
        Check.is(false, "99 wait again", x.demand(3, 1, 0));
        Check.state("100 wait again", () -> x.demand(3, 1, 0));
    }

    // ---- promise 12

    private static void promise() {
        Sentences.noRule(TWELVE, "---- what happens");
        Sentences.holds(TWELVE, "Lets a demand occur.", () -> {
            DepotNetwork x = Nets.bases(4);
            x.demand(1, 0, 0);
            Check.is(1, "demands", x.demands(1, 0));
        });
        Sentences.holds(TWELVE, "- `priority`: 0 to 9", DemandSentences::priorities);
        Sentences.holds(TWELVE, "Returns true if it is filled at once; false if a customer waits.",
                DemandSentences::answers);
        Sentences.holds(TWELVE,
                "Throws `IndexOutOfBoundsException` if there is no such base or item",
                () -> SiteSentences.noBaseOrItem((x, b, i) -> x.demand(b, i, 0) ? 1 : 0));
        Sentences.holds(TWELVE, "Throws `IllegalArgumentException` if priority is out of range",
                DemandSentences::wrongPriority);
        Sentences.holds(TWELVE, "Throws `IllegalStateException` if the demand is refused",
                DemandSentences::refused);
    }

    private static void priorities() {
        DepotNetwork x = Nets.bases(20);
        for (int p = 0; p <= 9; p++) {
            x.demand(1, 0, p);
            Check.is(p, "topPriority", x.topPriority(1, 0));
        }
        Check.argument("10", () -> x.demand(1, 0, 10));
        Check.argument("-1", () -> x.demand(1, 0, -1));
    }

    private static void answers() {
        DepotNetwork x = Nets.bases(4, 4);
        x.setLevel(1, 0, 1);
        x.setLevel(2, 0, 1);
        x.setLink(1, 2, 1);
        x.setLateralLimit(1);
        Check.is(true, "one on hand", x.demand(1, 0, 0));
        Check.is(false, "none on hand, though base 2 helps", x.demand(1, 0, 0));
        Check.is(1, "base 2 helps", x.helped(2, 0));
        Check.is(false, "none on hand", x.demand(1, 0, 9));
    }

    private static void wrongPriority() {
        DepotNetwork x = Nets.bases(4);
        for (int p : new int[] {-1, 10, Integer.MIN_VALUE, Integer.MAX_VALUE}) {
            Check.argument("priority " + p, () -> x.demand(1, 0, p));
        }
        Check.is(0, "no demand", x.demands(1, 0));
        Check.is(0, "nobody waits", x.waiting(1, 0));
    }

    private static void refused() {
        DepotNetwork x = Nets.bases(20, 20);
        x.setShare(2, 0, 5);
        x.demand(2, 0, 0);
        Nets.demands(x, 99, 1, 0, 0);
        String before = Nets.seen(x);
        Check.state("100 wait", () -> x.demand(2, 0, 0));
        Check.is(before, "nothing changes", Nets.seen(x));
        Check.is(0, "it is no random demand", x.refusedDemands());
        x.setLevel(2, 0, 1);
        x.demand(2, 0, 0);
        Check.is(1, "the refused one had no number: this is the second", x.underWay(0, 1));
        Check.is(2, "demands", x.demands(2, 0));
    }
}
