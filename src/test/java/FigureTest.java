/** Promises 33 to 39: figures and the best site. */
public final class FigureTest {
    private FigureTest() {
    }

    public static void main(String[] args) {
        wrongArguments();
        noDemands();
        sums();
        lowestTerms();
        delaysAndBackorderDays();
        bestSiteEdges();
        bestSiteChoice();
        bestSiteChangesNothing();
        Check.end("FigureTest");
    }

    private static DepotNetwork small() {
        DepotNetwork x = new DepotNetwork();
        x.addItem(5, 1, 3);
        x.addItem(2, 1, 6);
        x.addBase(2);
        x.addBase(4);
        return x;
    }

    private static void wrongArguments() {
        DepotNetwork x = small();
        int[][] wrong = {{0, 0}, {3, 0}, {-2, 0}, {1, 2}, {1, -2}, {-1, 2}, {0, -1}, {-1, -2},
            {Integer.MIN_VALUE, -1}, {-1, Integer.MAX_VALUE}};
        for (int[] w : wrong) {
            Check.index("demands", () -> x.demands(w[0], w[1]));
            Check.index("fillNumerator", () -> x.fillNumerator(w[0], w[1]));
            Check.index("fillDenominator", () -> x.fillDenominator(w[0], w[1]));
            Check.index("delays", () -> x.delays(w[0], w[1]));
            Check.index("backorderDays", () -> x.backorderDays(w[0], w[1]));
            Check.index("helped", () -> x.helped(w[0], w[1]));
        }
    }

    private static void noDemands() {
        DepotNetwork x = new DepotNetwork();
        Check.due(0, "fillNumerator of nothing", () -> x.fillNumerator(-1, -1));
        Check.due(1, "fillDenominator of nothing", () -> x.fillDenominator(-1, -1));
        Check.due(0, "helped of nothing", () -> x.helped(-1, -1));
        Check.index("no item yet", () -> x.demands(-1, 0));
        x.addItem(1, 1, 1);
        Check.due(0, "no base yet", () -> x.demands(-1, 0));
        Check.index("the depot is no base", () -> x.demands(0, 0));
        x.addBase(1);
        x.demand(1, 0, 0);
        Check.due(0, "none was filled", () -> x.fillNumerator(1, 0));
        Check.due(1, "1 if the numerator is 0", () -> x.fillDenominator(1, 0));
    }

    private static void sums() {
        DepotNetwork x = small();
        x.setLevel(2, 0, 1);
        x.setLevel(2, 1, 2);
        x.setLink(1, 2, 1);
        x.setLateralLimit(1);
        x.demand(1, 0, 0);
        x.demand(1, 1, 0);
        x.demand(1, 1, 0);
        x.demand(2, 0, 0);
        x.demand(2, 1, 0);
        x.demand(2, 1, 0);
        x.demand(2, 1, 0);
        int[][] due = {{1, 0, 1}, {1, 1, 2}, {2, 0, 1}, {2, 1, 3}, {-1, 0, 2}, {-1, 1, 5},
            {1, -1, 3}, {2, -1, 4}, {-1, -1, 7}};
        for (int[] d : due) {
            Check.due(d[2], "demands", () -> x.demands(d[0], d[1]));
        }
        Check.due(1, "helped(2, 0)", () -> x.helped(2, 0));
        Check.due(2, "helped(2, 1)", () -> x.helped(2, 1));
        Check.due(0, "helped(1, NONE)", () -> x.helped(1, -1));
        Check.due(3, "helped(2, NONE)", () -> x.helped(2, -1));
        Check.due(2, "helped(NONE, 1)", () -> x.helped(-1, 1));
        x.advance(1);
        Check.due(4, "backorderDays(NONE, NONE)", () -> x.backorderDays(-1, -1));
        Check.due(3, "backorderDays(2, 1)", () -> x.backorderDays(2, 1));
        Check.due(0, "backorderDays(1, NONE)", () -> x.backorderDays(1, -1));
        Check.due(3, "delays(1, NONE)", () -> x.delays(1, -1));
        Check.due(1, "delays(NONE, 0)", () -> x.delays(-1, 0));
    }

    private static void lowestTerms() {
        DepotNetwork x = small();
        x.setLevel(1, 0, 4);
        x.setLevel(2, 1, 2);
        for (int k = 0; k < 6; k++) {
            x.demand(1, 0, 0);
        }
        x.demand(1, 1, 0);
        x.setLevel(1, 1, 2);
        x.demand(1, 1, 0);
        x.demand(1, 1, 0);
        Check.due(1, "1/3", () -> x.fillNumerator(1, 1));
        Check.due(3, "1/3 has the denominator", () -> x.fillDenominator(1, 1));
        Check.due(2, "4/6", () -> x.fillNumerator(1, 0));
        Check.due(3, "4/6 has the denominator", () -> x.fillDenominator(1, 0));
        x.demand(2, 1, 0);
        x.demand(2, 1, 0);
        Check.due(1, "2/2", () -> x.fillNumerator(2, -1));
        Check.due(1, "2/2 has the denominator", () -> x.fillDenominator(2, -1));
        Check.due(3, "3/5", () -> x.fillNumerator(-1, 1));
        Check.due(5, "3/5 has the denominator", () -> x.fillDenominator(-1, 1));
        x.demand(1, 1, 0);
        Check.due(7, "7/12", () -> x.fillNumerator(-1, -1));
        Check.due(12, "7/12 has the denominator", () -> x.fillDenominator(-1, -1));
    }

    private static void delaysAndBackorderDays() {
        DepotNetwork x = small();
        x.setShare(1, 0, 10);
        x.demand(1, 0, 3);
        x.advance(2);
        Check.due(2, "backorder days", () -> x.backorderDays(1, 0));
        Check.due(0, "who still waits has no delay", () -> x.delays(1, 0));
        x.advance(1);
        Check.due(3, "the delay", () -> x.delays(1, 0));
        Check.due(2, "the day of the arrival does not count", () -> x.backorderDays(1, 0));
        x.advance(1);
        Check.due(2, "nobody waits", () -> x.backorderDays(1, 0));
    }

    private static void bestSiteEdges() {
        DepotNetwork x = small();
        for (int item : new int[] {-1, 2}) {
            Check.index("bestSite: item", () -> x.bestSite(item, -1, 0));
        }
        Check.argument("bestSite: seed", () -> x.bestSite(0, -1, 1));
        Check.argument("bestSite: days 0", () -> x.bestSite(0, 0, 0));
        Check.argument("bestSite: days 11", () -> x.bestSite(0, 0, 11));
        Check.due(0, "all alike: the lowest", () -> x.bestSite(0, Integer.MAX_VALUE, 10));
        x.setLevel(0, 0, 20);
        Check.due(1, "the depot is left out", () -> x.bestSite(0, 0, 1));
        x.setLevel(1, 0, 20);
        x.setLevel(2, 0, 20);
        Check.due(-1, "all are left out", () -> x.bestSite(0, 0, 1));
        Check.due(0, "item 1 is another matter", () -> x.bestSite(1, 0, 1));
        for (int k = 0; k < 166; k++) {
            x.advance(60);
        }
        x.advance(30);
        Check.state("day 10000", () -> x.bestSite(0, 0, 10));
        Check.argument("argument before state", () -> x.bestSite(0, 0, 11));
        Check.due(-1, "day 9999", () -> x.bestSite(0, 0, 9));
        Check.due(9990, "day()", x::day);
    }

    private static void bestSiteChoice() {
        DepotNetwork x = small();
        x.demand(2, 0, 0);
        Check.due(2, "where a customer waits", () -> x.bestSite(0, 0, 4));
        x.demand(1, 1, 0);
        Check.due(1, "where a customer of item 1 waits", () -> x.bestSite(1, 0, 1));
        DepotNetwork y = small();
        y.setRate(2, 1, 100);
        Check.due(2, "where demands will come", () -> y.bestSite(1, 5, 3));
        Check.due(0, "a unit of item 0 is no help", () -> y.bestSite(0, 5, 3));
        DepotNetwork z = small();
        z.demand(1, 0, 9);
        z.demand(2, 0, 0);
        Check.due(1, "both are served, the lowest", () -> z.bestSite(0, 0, 2));
        z.demand(2, 0, 0);
        Check.due(1, "it is just one unit more", () -> z.bestSite(0, 0, 2));
    }

    private static void bestSiteChangesNothing() {
        DepotNetwork x = small();
        x.setRate(1, 0, 80);
        x.setRate(2, 1, 100);
        x.run(9, 10);
        String before = seen(x);
        x.save(0);
        x.bestSite(0, 7, 10);
        x.bestSite(1, 8, 10);
        Check.due(before, "the state after bestSite", () -> seen(x));
        x.run(4, 10);
        String later = seen(x);
        x.restore(0);
        x.run(4, 10);
        Check.due(later, "the state goes on alike", () -> seen(x));
    }

    private static String seen(DepotNetwork x) {
        StringBuilder out = new StringBuilder();
        out.append(x.day()).append(' ').append(x.refusedDemands()).append(' ');
        for (int i = 0; i < x.itemCount(); i++) {
            for (int s = 0; s < x.siteCount(); s++) {
                out.append(x.level(s, i)).append(' ').append(x.onHand(s, i)).append(' ');
            }
            for (int kind = 0; kind <= 4; kind++) {
                out.append(x.underWay(i, kind)).append(' ');
            }
            out.append(x.keptOrders(i)).append(' ');
            out.append(x.demands(-1, i)).append(' ').append(x.delays(-1, i)).append(' ');
            out.append(x.backorderDays(-1, i)).append(' ').append(x.helped(-1, i)).append(' ');
        }
        for (int k = 0; k < x.dueCount(); k++) {
            out.append(x.dueDay(k)).append(x.dueKind(k)).append(x.dueItem(k)).append(' ');
        }
        return out.toString();
    }
}
