/** Promises 1 to 11: a new object, and what is set. */
public final class NetworkTest {
    private NetworkTest() {
    }

    public static void main(String[] args) {
        newObject();
        addItem();
        addBase();
        setLink();
        setLevelOfAQuietSite();
        setLevelFillsWaitingCustomers();
        setLevelFillsKeptOrders();
        setShareReserveAndRate();
        setLateralLimit();
        Check.end("NetworkTest");
    }

    private static DepotNetwork twoBases() {
        DepotNetwork x = new DepotNetwork();
        x.addItem(5, 1, 3);
        x.addBase(2);
        x.addBase(4);
        return x;
    }

    private static void newObject() {
        DepotNetwork x = new DepotNetwork();
        Check.due(0, "new: itemCount()", x::itemCount);
        Check.due(1, "new: siteCount()", x::siteCount);
        Check.due(0, "new: day()", x::day);
        Check.due(0, "new: refusedDemands()", x::refusedDemands);
        Check.due(0, "new: dueCount()", x::dueCount);
        Check.due(0, "new: errorCode()", x::errorCode);
        Check.due(-1, "new: errorPosition()", x::errorPosition);
        Check.due(0, "new: setLateralLimit(0)", () -> x.setLateralLimit(0));
        Check.due(0, "new: demands(NONE, NONE)", () -> x.demands(-1, -1));
        Check.index("new: level(0, 0)", () -> x.level(0, 0));
        Check.due(4, "new: the text buffer is empty", () -> x.appendText(0));
        for (int slot = 0; slot < 2; slot++) {
            int s = slot;
            Check.state("new: restore(" + s + ")", () -> {
                x.restore(s);
                return 0;
            });
        }
    }

    private static void addItem() {
        DepotNetwork x = new DepotNetwork();
        int[][] wrong = {{0, 1, 1}, {31, 1, 1}, {1, 0, 1}, {1, 6, 1}, {1, 1, 0}, {1, 1, 31},
            {-1, 1, 1}, {Integer.MIN_VALUE, 1, 1}, {1, Integer.MAX_VALUE, 1}};
        for (int[] w : wrong) {
            Check.argument("addItem out of range", () -> x.addItem(w[0], w[1], w[2]));
        }
        Check.due(0, "itemCount() after refusals", x::itemCount);
        Check.due(0, "addItem(1, 1, 1)", () -> x.addItem(1, 1, 1));
        Check.due(1, "addItem(30, 5, 30)", () -> x.addItem(30, 5, 30));
        Check.due(2, "addItem(2, 2, 2)", () -> x.addItem(2, 2, 2));
        Check.due(3, "addItem(3, 3, 3)", () -> x.addItem(3, 3, 3));
        Check.due(4, "itemCount()", x::itemCount);
        Check.state("a 5th item", () -> x.addItem(1, 1, 1));
        Check.argument("a 5th item out of range", () -> x.addItem(0, 1, 1));
        Check.due(4, "itemCount() after refusals", x::itemCount);
        Check.due(0, "level(0, 3)", () -> x.level(0, 3));
    }

    private static void addBase() {
        DepotNetwork x = new DepotNetwork();
        Check.argument("addBase(0)", () -> x.addBase(0));
        Check.argument("addBase(21)", () -> x.addBase(21));
        Check.argument("addBase(min)", () -> x.addBase(Integer.MIN_VALUE));
        Check.due(1, "siteCount() after refusals", x::siteCount);
        for (int b = 1; b <= 7; b++) {
            int lead = b == 1 ? 1 : b == 2 ? 20 : b;
            Check.due(b, "addBase", () -> x.addBase(lead));
        }
        Check.due(8, "siteCount()", x::siteCount);
        Check.state("an 8th base", () -> x.addBase(1));
        Check.argument("an 8th base out of range", () -> x.addBase(21));
        Check.due(8, "siteCount() after refusals", x::siteCount);
    }

    private static void setLink() {
        DepotNetwork x = twoBases();
        Check.index("the depot is no base", () -> x.setLink(0, 1, 3));
        Check.index("the depot is no other base", () -> x.setLink(1, 0, 3));
        Check.index("no base 3", () -> x.setLink(1, 3, 3));
        Check.index("index before argument", () -> x.setLink(3, 3, 21));
        Check.argument("the same base", () -> x.setLink(1, 1, 3));
        Check.argument("link time 21", () -> x.setLink(1, 2, 21));
        Check.argument("link time -1", () -> x.setLink(1, 2, -1));
        Check.due(0, "setLink(1, 2, 20)", () -> x.setLink(1, 2, 20));
        Check.due(20, "a link joins both ways", () -> x.setLink(2, 1, 1));
        Check.due(1, "removal", () -> x.setLink(1, 2, 0));
        Check.due(0, "removed", () -> x.setLink(2, 1, 5));
        x.setLateralLimit(5);
        x.setLevel(2, 0, 1);
        x.demand(1, 0, 0);
        Check.due(5, "a helper's unit takes the link's time", () -> x.nextArrival(1, 0));
    }

    private static void setLevelOfAQuietSite() {
        DepotNetwork x = twoBases();
        Check.index("no site 3", () -> x.setLevel(3, 0, 1));
        Check.index("no site -1", () -> x.setLevel(-1, 0, 1));
        Check.index("no item 1", () -> x.setLevel(0, 1, 21));
        Check.argument("level 21", () -> x.setLevel(0, 0, 21));
        Check.argument("level -1", () -> x.setLevel(0, 0, -1));
        Check.due(0, "setLevel(0, 0, 20)", () -> x.setLevel(0, 0, 20));
        Check.due(20, "onHand(0, 0)", () -> x.onHand(0, 0));
        Check.due(20, "setLevel(0, 0, 3)", () -> x.setLevel(0, 0, 3));
        Check.due(3, "onHand(0, 0) after a sale", () -> x.onHand(0, 0));
        Check.due(3, "level(0, 0) after a sale", () -> x.level(0, 0));
        x.setLevel(1, 0, 2);
        x.demand(1, 0, 0);
        Check.state("one on hand, two to be sold", () -> x.setLevel(1, 0, 0));
        Check.due(2, "nothing changed: level", () -> x.level(1, 0));
        Check.due(1, "nothing changed: onHand", () -> x.onHand(1, 0));
        Check.argument("argument before state", () -> x.setLevel(1, 0, -1));
        Check.due(2, "one is sold", () -> x.setLevel(1, 0, 1));
        Check.due(0, "onHand(1, 0)", () -> x.onHand(1, 0));
        Check.due(1, "the same level again", () -> x.setLevel(1, 0, 1));
    }

    private static void setLevelFillsWaitingCustomers() {
        DepotNetwork x = twoBases();
        x.demand(1, 0, 4);
        x.advance(1);
        x.demand(1, 0, 9);
        x.demand(1, 0, 4);
        x.advance(1);
        x.setLevel(1, 0, 1);
        Check.due(4, "the highest priority is served first", () -> x.topPriority(1, 0));
        Check.due(1, "its delay", () -> x.delays(1, 0));
        x.setLevel(1, 0, 2);
        Check.due(3, "then who waited longest, two days", () -> x.delays(1, 0));
        x.setLevel(1, 0, 5);
        Check.due(0, "nobody waits", () -> x.waiting(1, 0));
        Check.due(2, "the rest is on hand", () -> x.onHand(1, 0));
        Check.due(4, "all delays", () -> x.delays(1, 0));
        Check.due(0, "they were not filled at once", () -> x.fillNumerator(1, 0));
        Check.due(5, "position", () -> x.position(1, 0));
    }

    private static void setLevelFillsKeptOrders() {
        DepotNetwork x = twoBases();
        x.demand(1, 0, 3);
        x.demand(2, 0, 8);
        x.demand(2, 0, 3);
        Check.due(3, "keptOrders", () -> x.keptOrders(0));
        x.setLevel(0, 0, 1);
        Check.due(4, "the order of priority 8 is sent to base 2", () -> x.nextArrival(2, 0));
        Check.due(-1, "none to base 1 yet", () -> x.nextArrival(1, 0));
        x.setLevel(0, 0, 2);
        Check.due(2, "then the earliest of equal ones", () -> x.nextArrival(1, 0));
        x.setLevel(0, 0, 5);
        Check.due(0, "no order is kept", () -> x.keptOrders(0));
        Check.due(3, "all are in SUPPLY", () -> x.underWay(0, 2));
        Check.due(2, "the rest is on hand", () -> x.onHand(0, 0));
        Check.due(5, "fleet", () -> x.fleet(0));
    }

    private static void setShareReserveAndRate() {
        DepotNetwork x = twoBases();
        for (int b : new int[] {-1, 0, 3}) {
            Check.index("setShare: no base", () -> x.setShare(b, 0, 11));
            Check.index("setReserve: no base", () -> x.setReserve(b, 0, 21));
            Check.index("setRate: no base", () -> x.setRate(b, 0, 101));
        }
        for (int i : new int[] {-1, 1}) {
            Check.index("setShare: no item", () -> x.setShare(1, i, 1));
            Check.index("setReserve: no item", () -> x.setReserve(1, i, 1));
            Check.index("setRate: no item", () -> x.setRate(1, i, 1));
        }
        Check.argument("setShare 11", () -> x.setShare(1, 0, 11));
        Check.argument("setShare -1", () -> x.setShare(1, 0, -1));
        Check.argument("setReserve 21", () -> x.setReserve(1, 0, 21));
        Check.argument("setReserve -1", () -> x.setReserve(1, 0, -1));
        Check.argument("setRate 101", () -> x.setRate(1, 0, 101));
        Check.argument("setRate -1", () -> x.setRate(1, 0, -1));
        Check.due(0, "setShare 10", () -> x.setShare(1, 0, 10));
        Check.due(10, "setShare 0", () -> x.setShare(1, 0, 0));
        Check.due(0, "setReserve 20", () -> x.setReserve(1, 0, 20));
        Check.due(20, "setReserve 0", () -> x.setReserve(1, 0, 0));
        Check.due(0, "setRate 100", () -> x.setRate(1, 0, 100));
        Check.due(100, "setRate 0", () -> x.setRate(1, 0, 0));
        Check.due(0, "base 2 has a share of its own", () -> x.setShare(2, 0, 0));
        Check.due(0, "base 2 has a reserve of its own", () -> x.setReserve(2, 0, 0));
        Check.due(0, "base 2 has a rate of its own", () -> x.setRate(2, 0, 0));
    }

    private static void setLateralLimit() {
        DepotNetwork x = new DepotNetwork();
        Check.argument("limit -1", () -> x.setLateralLimit(-1));
        Check.argument("limit 21", () -> x.setLateralLimit(21));
        Check.due(0, "limit 20", () -> x.setLateralLimit(20));
        Check.due(20, "limit 0", () -> x.setLateralLimit(0));
    }
}
