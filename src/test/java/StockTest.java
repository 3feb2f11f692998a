/** Promises 17 to 32: stocks, and units with a due day. */
public final class StockTest {
    private StockTest() {
    }

    public static void main(String[] args) {
        wrongArguments();
        waitingAndTopPriority();
        dueInAndPosition();
        underWayAndFleet();
        nextArrival();
        dueOrder();
        Check.end("StockTest");
    }

    private static DepotNetwork small() {
        DepotNetwork x = new DepotNetwork();
        x.addItem(5, 1, 3);
        x.addItem(2, 1, 6);
        x.addBase(2);
        x.addBase(4);
        return x;
    }

    private static void wrongArguments() {
        DepotNetwork x = small();
        for (int item : new int[] {-1, 2, Integer.MAX_VALUE, Integer.MIN_VALUE}) {
            Check.index("level: item", () -> x.level(0, item));
            Check.index("onHand: item", () -> x.onHand(0, item));
            Check.index("waiting: item", () -> x.waiting(1, item));
            Check.index("topPriority: item", () -> x.topPriority(1, item));
            Check.index("keptOrders: item", () -> x.keptOrders(item));
            Check.index("dueIn: item", () -> x.dueIn(1, item));
            Check.index("position: item", () -> x.position(1, item));
            Check.index("underWay: item", () -> x.underWay(item, 5));
            Check.index("fleet: item", () -> x.fleet(item));
            Check.index("nextArrival: item", () -> x.nextArrival(1, item));
        }
        for (int site : new int[] {-1, 3, Integer.MAX_VALUE, Integer.MIN_VALUE}) {
            Check.index("level: site", () -> x.level(site, 0));
            Check.index("onHand: site", () -> x.onHand(site, 0));
        }
        for (int base : new int[] {-1, 0, 3, Integer.MIN_VALUE}) {
            Check.index("waiting: base", () -> x.waiting(base, 0));
            Check.index("topPriority: base", () -> x.topPriority(base, 0));
            Check.index("dueIn: base", () -> x.dueIn(base, 0));
            Check.index("position: base", () -> x.position(base, 0));
            Check.index("nextArrival: base", () -> x.nextArrival(base, 0));
        }
        Check.argument("underWay: kind -1", () -> x.underWay(0, -1));
        Check.argument("underWay: kind 5", () -> x.underWay(0, 5));
        Check.due(0, "the depot has a level", () -> x.level(0, 1));
        Check.due(0, "the depot has units on hand", () -> x.onHand(0, 1));
    }

    private static void waitingAndTopPriority() {
        DepotNetwork x = small();
        Check.due(-1, "nobody waits", () -> x.topPriority(1, 0));
        x.demand(1, 0, 0);
        Check.due(0, "priority 0 is not NONE", () -> x.topPriority(1, 0));
        x.demand(1, 0, 6);
        x.demand(1, 0, 2);
        x.demand(2, 0, 9);
        x.demand(1, 1, 8);
        Check.due(3, "waiting(1, 0)", () -> x.waiting(1, 0));
        Check.due(6, "topPriority(1, 0)", () -> x.topPriority(1, 0));
        Check.due(1, "waiting(2, 0)", () -> x.waiting(2, 0));
        Check.due(9, "topPriority(2, 0)", () -> x.topPriority(2, 0));
        Check.due(1, "waiting(1, 1)", () -> x.waiting(1, 1));
        Check.due(8, "topPriority(1, 1)", () -> x.topPriority(1, 1));
        Check.due(4, "keptOrders(0)", () -> x.keptOrders(0));
        Check.due(1, "keptOrders(1)", () -> x.keptOrders(1));
    }

    private static void dueInAndPosition() {
        DepotNetwork x = small();
        x.setLevel(1, 0, 3);
        x.setLevel(2, 0, 1);
        x.setLevel(0, 0, 1);
        x.demand(1, 0, 0);
        x.demand(1, 0, 0);
        Check.due(2, "a unit in SUPPLY and a kept order", () -> x.dueIn(1, 0));
        Check.due(1, "on hand", () -> x.onHand(1, 0));
        Check.due(3, "position", () -> x.position(1, 0));
        x.setShare(1, 0, 10);
        x.demand(1, 0, 0);
        Check.due(3, "and a unit in REPAIR", () -> x.dueIn(1, 0));
        x.demand(1, 0, 0);
        Check.due(4, "and one for a customer", () -> x.dueIn(1, 0));
        Check.due(3, "position with a customer", () -> x.position(1, 0));
        Check.due(0, "nothing of item 1", () -> x.dueIn(1, 1));
        Check.due(0, "nothing for base 2", () -> x.dueIn(2, 0));
        Check.due(1, "position of base 2", () -> x.position(2, 0));
        DepotNetwork y = small();
        y.setShare(1, 0, 10);
        y.demand(1, 0, 0);
        Check.due(1, "the only unit under way", () -> y.dueIn(1, 0));
    }

    private static void underWayAndFleet() {
        DepotNetwork x = small();
        x.setLevel(0, 0, 1);
        x.setLevel(2, 0, 1);
        x.setLevel(2, 1, 7);
        x.setLink(1, 2, 9);
        x.setLateralLimit(9);
        x.demand(1, 0, 0);
        x.demand(1, 0, 0);
        x.advance(2);
        x.setShare(1, 0, 10);
        x.demand(1, 0, 0);
        x.setShare(1, 0, 0);
        x.demand(1, 0, 0);
        int[] due = {1, 2, 1, 1, 1};
        for (int kind = 0; kind <= 4; kind++) {
            int k = kind;
            Check.due(due[k], "underWay(0, " + k + ")", () -> x.underWay(0, k));
            Check.due(0, "underWay(1, " + k + ")", () -> x.underWay(1, k));
        }
        Check.due(2, "fleet(0)", () -> x.fleet(0));
        Check.due(7, "fleet(1)", () -> x.fleet(1));
        Check.due(5, "WAITING units have no due day", x::dueCount);
    }

    private static void nextArrival() {
        DepotNetwork x = small();
        Check.due(-1, "nothing is under way", () -> x.nextArrival(1, 0));
        x.setLevel(2, 0, 1);
        x.demand(2, 0, 0);
        Check.due(-1, "a kept order is no unit", () -> x.nextArrival(2, 0));
        x.setShare(2, 0, 10);
        x.demand(2, 0, 0);
        Check.due(3, "REPAIR at the base for the base", () -> x.nextArrival(2, 0));
        x.advance(1);
        Check.due(2, "days from now", () -> x.nextArrival(2, 0));
        x.setLevel(0, 0, 1);
        Check.due(2, "SUPPLY comes later", () -> x.nextArrival(2, 0));
        x.advance(2);
        Check.due(2, "now SUPPLY is next", () -> x.nextArrival(2, 0));
        Check.due(-1, "not at base 1", () -> x.nextArrival(1, 0));
        Check.due(-1, "not of item 1", () -> x.nextArrival(2, 1));
    }

    private static String unit(DepotNetwork x, int k) {
        return x.dueDay(k) + " " + x.dueKind(k) + " " + x.dueItem(k) + " " + x.dueSite(k)
                + " " + x.dueOwner(k);
    }

    private static void dueOrder() {
        DepotNetwork x = small();
        x.setLevel(0, 1, 1);
        x.setLevel(0, 0, 1);
        x.setLevel(2, 1, 1);
        x.setLink(1, 2, 2);
        x.setLateralLimit(2);
        x.demand(1, 1, 0);
        x.demand(1, 0, 0);
        x.setShare(2, 0, 10);
        x.demand(2, 0, 0);
        x.demand(2, 1, 0);
        String[] due = {"2 0 1 0 0", "2 0 0 0 0", "2 2 0 1 1", "2 3 1 1 1", "3 1 0 2 2",
            "4 0 1 0 0", "4 2 1 2 2"};
        Check.due(due.length, "dueCount", x::dueCount);
        for (int k = 0; k < due.length; k++) {
            int index = k;
            Check.due(due[k], "unit " + k, () -> unit(x, index));
        }
        for (int index : new int[] {-1, due.length, Integer.MAX_VALUE, Integer.MIN_VALUE}) {
            Check.index("dueDay", () -> x.dueDay(index));
            Check.index("dueKind", () -> x.dueKind(index));
            Check.index("dueItem", () -> x.dueItem(index));
            Check.index("dueSite", () -> x.dueSite(index));
            Check.index("dueOwner", () -> x.dueOwner(index));
        }
        x.advance(2);
        String[] later = {"3 1 0 2 2", "4 0 1 0 0", "4 1 1 0 0", "4 2 1 2 2", "7 1 0 0 0"};
        Check.due(later.length, "dueCount later", x::dueCount);
        for (int k = 0; k < later.length; k++) {
            int index = k;
            Check.due(later[k], "unit " + k + " later", () -> unit(x, index));
        }
    }
}
