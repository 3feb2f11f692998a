/** Promises 12 to 16: demands, days, random demands. */
public final class DemandTest {
    private DemandTest() {
    }

    public static void main(String[] args) {
        wrongArguments();
        localShare();
        helperIsChosen();
        lowestBaseHelps();
        helperBuys();
        repairForAHelper();
        returnsAndRepairPlaces();
        returnsBeforeRepairs();
        ordersByPriority();
        suppliesBeforeLaterals();
        refusalByCustomers();
        refusalByUnits();
        depotBuysForKeptOrders();
        advanceEdges();
        runEdges();
        runDraws();
        Check.end("DemandTest");
    }

    private static DepotNetwork bases(int... leads) {
        DepotNetwork x = new DepotNetwork();
        x.addItem(5, 1, 3);
        for (int lead : leads) {
            x.addBase(lead);
        }
        return x;
    }

    private static void wrongArguments() {
        DepotNetwork x = bases(2);
        for (int b : new int[] {-1, 0, 2, Integer.MAX_VALUE}) {
            Check.index("demand: no base", () -> x.demand(b, 0, 10));
        }
        Check.index("demand: no item", () -> x.demand(1, 1, 0));
        Check.index("demand: item NONE", () -> x.demand(1, -1, 0));
        Check.argument("priority 10", () -> x.demand(1, 0, 10));
        Check.argument("priority -1", () -> x.demand(1, 0, -1));
        Check.due(0, "nothing happened", () -> x.demands(-1, -1));
        x.setLevel(1, 0, 1);
        Check.due(true, "filled at once", () -> x.demand(1, 0, 9));
        Check.due(false, "a customer waits", () -> x.demand(1, 0, 0));
    }

    private static void localShare() {
        DepotNetwork x = bases(2);
        x.setShare(1, 0, 3);
        String seen = "";
        int repairs = 0;
        for (int f = 1; f <= 10; f++) {
            x.demand(1, 0, 0);
            boolean local = x.underWay(0, 1) > repairs;
            repairs = x.underWay(0, 1);
            seen += local ? "L" : "r";
        }
        String got = seen;
        Check.due("rrrLrrLrrL", "a share of 3", () -> got);
        x.setShare(1, 0, 10);
        x.demand(1, 0, 0);
        Check.due(4, "a share of 10 is always local", () -> x.underWay(0, 1));
        x.setShare(1, 0, 0);
        x.demand(1, 0, 0);
        Check.due(4, "a share of 0 is never local", () -> x.underWay(0, 1));
    }

    private static void helperIsChosen() {
        DepotNetwork x = bases(2, 2, 2, 2, 2);
        x.setLevel(2, 0, 5);
        x.setLevel(3, 0, 2);
        x.setLevel(4, 0, 3);
        x.setLevel(5, 0, 3);
        x.setLink(1, 2, 6);
        x.setLink(1, 3, 4);
        x.setLink(1, 4, 4);
        x.setLink(5, 1, 4);
        x.demand(1, 0, 0);
        Check.due(0, "no helper within a limit of 0", () -> x.helped(-1, -1));
        x.setLateralLimit(3);
        x.demand(1, 0, 0);
        Check.due(0, "no helper within a limit of 3", () -> x.helped(-1, -1));
        x.setLateralLimit(6);
        x.demand(1, 0, 0);
        Check.due(1, "lowest time, most units, lowest number", () -> x.helped(4, 0));
        x.demand(1, 0, 0);
        Check.due(1, "then the one with more units", () -> x.helped(5, 0));
        x.setReserve(4, 0, 2);
        x.setReserve(5, 0, 2);
        x.demand(1, 0, 0);
        Check.due(1, "a reserve is kept", () -> x.helped(3, 0));
        x.setReserve(3, 0, 20);
        x.demand(1, 0, 0);
        Check.due(1, "the farther one", () -> x.helped(2, 0));
        Check.due(4, "its unit has gone", () -> x.onHand(2, 0));
        x.setLink(1, 2, 7);
        x.demand(1, 0, 0);
        Check.due(4, "nobody near enough any more", () -> x.helped(-1, -1));
        Check.due(7, "all wait", () -> x.waiting(1, 0));
    }

    private static void lowestBaseHelps() {
        DepotNetwork x = bases(2, 2, 2);
        x.setLevel(1, 0, 1);
        x.setLevel(3, 0, 1);
        x.setLink(2, 1, 4);
        x.setLink(2, 3, 4);
        x.setLateralLimit(20);
        x.demand(2, 0, 0);
        Check.due(1, "base 1 helps", () -> x.helped(1, 0));
        x.demand(2, 0, 0);
        Check.due(1, "base 3 helps", () -> x.helped(3, 0));
    }

    private static void helperBuys() {
        DepotNetwork x = bases(2, 4);
        x.setLevel(2, 0, 1);
        x.setLevel(0, 0, 1);
        x.setLink(1, 2, 3);
        x.setLateralLimit(3);
        Check.due(false, "the customer waits", () -> x.demand(1, 0, 5));
        Check.due(3, "RETURN, SUPPLY and LATERAL", x::dueCount);
        Check.due(0, "the depot's unit is gone", () -> x.onHand(0, 0));
        Check.due(2, "SUPPLY goes to the helper", () -> x.dueOwner(2));
        Check.due(4, "and takes the helper's lead time", () -> x.dueDay(2));
        Check.due(2, "the kind", () -> x.dueKind(2));
        Check.due(1, "LATERAL goes to the base", () -> x.dueOwner(1));
        Check.due(3, "and takes the link's time", () -> x.dueDay(1));
        Check.due(1, "dueIn of the base", () -> x.dueIn(1, 0));
        Check.due(1, "dueIn of the helper", () -> x.dueIn(2, 0));
        x.advance(3);
        Check.due(3, "the delay", () -> x.delays(1, 0));
        Check.due(0, "the customer has gone", () -> x.waiting(1, 0));
        x.advance(1);
        Check.due(1, "the helper has its unit again", () -> x.onHand(2, 0));
        x.demand(1, 0, 5);
        Check.due(1, "an order of the helper is kept", () -> x.keptOrders(0));
        Check.due(1, "for the helper", () -> x.dueIn(2, 0));
    }

    private static void repairForAHelper() {
        for (int now : new int[] {2, 7, 1, 0}) {
            DepotNetwork x = bases(2, 4);
            x.setLevel(2, 0, 1);
            x.setLink(1, 2, 2);
            x.setLateralLimit(2);
            x.setShare(1, 0, 10);
            x.demand(1, 0, 5);
            Check.due(1, "the unit is repaired at base 1", () -> x.dueSite(1));
            Check.due(2, "for base 2", () -> x.dueOwner(1));
            Check.due(-1, "it is not due at base 2 yet", () -> x.nextArrival(2, 0));
            if (now != 2) {
                x.setLink(2, 1, 20);
                x.setLink(2, 1, now);
            }
            x.advance(3);
            int due = now == 0 ? 2 : now;
            Check.due(due, "link now " + now, () -> x.nextArrival(2, 0));
            Check.due(3, "LATERAL", () -> x.dueKind(0));
            Check.due(2, "on its way to base 2", () -> x.dueSite(0));
            x.advance(due);
            Check.due(1, "it is there", () -> x.onHand(2, 0));
        }
    }

    private static void returnsAndRepairPlaces() {
        DepotNetwork x = new DepotNetwork();
        x.addItem(5, 2, 3);
        x.addBase(2);
        for (int k = 0; k < 4; k++) {
            x.demand(1, 0, 0);
        }
        x.advance(2);
        Check.due(2, "two places", () -> x.underWay(0, 1));
        Check.due(2, "two wait", () -> x.underWay(0, 4));
        Check.due(0, "the owner of a repair at the depot", () -> x.dueOwner(0));
        Check.due(0, "its site", () -> x.dueSite(0));
        x.advance(5);
        Check.due(2, "the next two", () -> x.underWay(0, 1));
        Check.due(0, "nobody waits", () -> x.underWay(0, 4));
        Check.due(2, "the repaired ones fill orders", () -> x.underWay(0, 2));
        Check.due(2, "two orders are left", () -> x.keptOrders(0));
        x.advance(7);
        Check.due(0, "all is filled", () -> x.waiting(1, 0));
        Check.due(9 * 2 + 14 * 2, "the delays", () -> x.delays(1, 0));
        Check.due(0, "nothing is under way", x::dueCount);
    }

    private static void returnsBeforeRepairs() {
        DepotNetwork x = new DepotNetwork();
        x.addItem(2, 1, 3);
        x.addBase(1);
        x.setLevel(0, 0, 3);
        x.demand(1, 0, 0);
        x.advance(2);
        x.demand(1, 0, 0);
        x.advance(1);
        Check.due(0, "the place is free again on that very day", () -> x.underWay(0, 4));
        Check.due(1, "the second is in REPAIR", () -> x.underWay(0, 1));
        Check.due(5, "from day 3 on", () -> x.dueDay(0));
        Check.due(2, "the first is on hand", () -> x.onHand(0, 0));
    }

    private static void ordersByPriority() {
        DepotNetwork x = new DepotNetwork();
        x.addItem(1, 5, 3);
        x.addBase(1);
        x.addBase(1);
        x.addBase(1);
        x.demand(1, 0, 4);
        x.demand(2, 0, 6);
        x.demand(3, 0, 6);
        x.setLevel(0, 0, 1);
        Check.due(1, "base 2 first", () -> x.nextArrival(2, 0));
        x.setLevel(0, 0, 2);
        Check.due(1, "then base 3", () -> x.nextArrival(3, 0));
        Check.due(-1, "base 1 last", () -> x.nextArrival(1, 0));
        x.advance(2);
        Check.due(1, "by a repaired unit", () -> x.nextArrival(1, 0));
    }

    private static void suppliesBeforeLaterals() {
        DepotNetwork x = bases(3, 4);
        x.setLevel(2, 0, 1);
        x.setLink(1, 2, 3);
        x.setLateralLimit(3);
        x.demand(1, 0, 1);
        x.setLateralLimit(0);
        x.setLevel(0, 0, 1);
        x.demand(1, 0, 2);
        x.setLevel(0, 0, 2);
        Check.due(0, "RETURN first", () -> x.dueKind(0));
        Check.due(0, "RETURN second", () -> x.dueKind(1));
        Check.due(2, "then SUPPLY", () -> x.dueKind(2));
        Check.due(3, "then LATERAL", () -> x.dueKind(3));
        Check.due(2, "and what is due later", () -> x.dueKind(4));
        x.advance(3);
        Check.due(6, "both customers are served on day 3", () -> x.delays(1, 0));
    }

    private static void refusalByCustomers() {
        DepotNetwork x = bases(20, 20);
        x.addItem(1, 1, 1);
        x.setLevel(2, 1, 1);
        for (int k = 0; k < 100; k++) {
            x.demand(1 + k % 2, 0, 0);
        }
        Check.state("100 customers wait", () -> x.demand(1, 0, 0));
        Check.state("also where a unit is on hand", () -> x.demand(2, 1, 0));
        Check.due(100, "no demand more", () -> x.demands(-1, -1));
        Check.due(0, "this is no random demand", x::refusedDemands);
        x.setLevel(1, 0, 1);
        Check.due(true, "99 wait", () -> x.demand(2, 1, 0));
        Check.due(false, "and still 99", () -> x.demand(2, 0, 0));
        Check.state("100 again", () -> x.demand(2, 0, 0));
        Check.argument("argument before state", () -> x.demand(2, 0, 10));
    }

    private static void refusalByUnits() {
        DepotNetwork x = new DepotNetwork();
        for (int i = 0; i < 4; i++) {
            x.addItem(30, 1, 30);
        }
        for (int b = 1; b <= 7; b++) {
            x.addBase(5);
            for (int i = 0; i < 4; i++) {
                x.setLevel(b, i, 20);
            }
        }
        for (int k = 0; k < 199; k++) {
            x.demand(1 + k % 7, k % 4, 0);
        }
        x.advance(5);
        Check.due(4, "four places, the others wait", x::dueCount);
        Check.due(true, "199 are under way", () -> x.demand(1, 0, 0));
        Check.state("200 are under way", () -> x.demand(1, 1, 0));
        Check.due(0, "though nobody waits", () -> x.waiting(1, 1));
        x.setRate(7, 2, 100);
        Check.due(0, "random demands are refused too", () -> x.run(3, 4));
        Check.due(4, "and counted", x::refusedDemands);
        x.advance(30);
        Check.due(200, "the repaired ones went to kept orders", () -> inAll(x));
        x.advance(1);
        Check.due(196, "the first four have come", () -> inAll(x));
        Check.due(true, "and now there is room", () -> x.demand(1, 1, 0));
    }

    private static int inAll(DepotNetwork x) {
        int sum = 0;
        for (int i = 0; i < x.itemCount(); i++) {
            for (int kind = 0; kind <= 4; kind++) {
                sum += x.underWay(i, kind);
            }
        }
        return sum;
    }

    /** The most that can be under way: the rows inside must hold it. */
    private static void depotBuysForKeptOrders() {
        DepotNetwork x = new DepotNetwork();
        for (int i = 0; i < 4; i++) {
            x.addItem(30, 1, 30);
        }
        for (int b = 1; b <= 7; b++) {
            x.addBase(20);
            for (int i = 0; i < 4; i++) {
                x.setLevel(b, i, 20);
            }
        }
        for (int k = 0; k < 200; k++) {
            x.demand(1 + k % 7, k % 4, k % 10);
        }
        for (int i = 0; i < 4; i++) {
            x.setLevel(0, i, 20);
        }
        Check.due(280, "200 in RETURN, 80 in SUPPLY", x::dueCount);
        Check.state("no demand more", () -> x.demand(1, 0, 0));
        for (int i = 0; i < 4; i++) {
            int item = i;
            Check.due(160, "fleet", () -> x.fleet(item));
            Check.due(30, "keptOrders", () -> x.keptOrders(item));
            Check.due(20, "SUPPLY", () -> x.underWay(item, 2));
        }
        x.advance(20);
        Check.due(200, "all supplies have come", () -> inAll(x));
        Check.due(4, "four are in REPAIR", x::dueCount);
    }

    private static void advanceEdges() {
        DepotNetwork x = new DepotNetwork();
        Check.argument("advance(0)", () -> x.advance(0));
        Check.argument("advance(61)", () -> x.advance(61));
        Check.argument("advance(min)", () -> x.advance(Integer.MIN_VALUE));
        for (int k = 1; k <= 166; k++) {
            int due = 60 * k;
            Check.due(due, "advance(60)", () -> x.advance(60));
        }
        Check.state("day 10000", () -> x.advance(40));
        Check.state("run to day 10000", () -> x.run(0, 40 - 10) + x.run(0, 10));
        Check.due(9990, "the first 30 days did pass", x::day);
        Check.due(9999, "day 9999", () -> x.advance(9));
        Check.state("the last day", () -> x.advance(1));
        Check.state("the last day of run", () -> x.run(0, 1));
        Check.argument("argument before state", () -> x.advance(61));
        Check.argument("argument before state in run", () -> x.run(0, 0));
        Check.due(9999, "day()", x::day);
    }

    private static void runEdges() {
        DepotNetwork x = bases(2);
        Check.argument("seed -1", () -> x.run(-1, 1));
        Check.argument("days 0", () -> x.run(0, 0));
        Check.argument("days 31", () -> x.run(0, 31));
        Check.due(0, "no rate, no demand", () -> x.run(Integer.MAX_VALUE, 30));
        Check.due(30, "day()", x::day);
    }

    /** The draws as the document tells them, once more. */
    private static void runDraws() {
        DepotNetwork x = bases(2, 3);
        x.addItem(4, 2, 2);
        int[] rate = {30, 55, 100, 1};
        x.setRate(1, 0, rate[0]);
        x.setRate(1, 1, rate[1]);
        x.setRate(2, 0, rate[2]);
        x.setRate(2, 1, rate[3]);
        int seed = 2147483647;
        long s = seed;
        int[] count = new int[4];
        int all = 0;
        int days = 12;
        int top = -1;
        for (int d = 0; d < days; d++) {
            for (int cell = 0; cell < 4; cell++) {
                s = (s * 1103515245L + 12345L) & 0x7fffffffL;
                if ((s >> 16) % 100 < rate[cell]) {
                    s = (s * 1103515245L + 12345L) & 0x7fffffffL;
                    count[cell]++;
                    all++;
                    if (cell == 2 && d == days - 1) {
                        top = (int) ((s >> 16) % 10);
                    }
                }
            }
        }
        int due = all;
        int last = top;
        Check.due(due, "run", () -> x.run(seed, days));
        for (int cell = 0; cell < 4; cell++) {
            int c = cell;
            Check.due(count[c], "demands by run", () -> x.demands(1 + c / 2, c % 2));
        }
        Check.due(12, "day()", x::day);
        Check.due(true, "the last priority is there",
                () -> x.topPriority(2, 0) >= last);
        DepotNetwork y = bases(1);
        y.setRate(1, 0, 100);
        y.run(0, 1);
        Check.due(8, "the priority of the first draws of seed 0", () -> y.topPriority(1, 0));
        Check.due(0, "a demand comes after the beginning of its day",
                () -> y.backorderDays(1, 0));
    }
}
