/** The sentences of the promises 33 to 39: figures and the best site. */
final class FigureSentences {
    private static final String NO_BASE_OR_ITEM =
            "Throws `IndexOutOfBoundsException` if there is no such base or item";
    private static final String BEST = "Promise 39";

    private FigureSentences() {
    }

    static void all() {
        demands();
        fillRate();
        delaysBackordersHelp();
        bestSite();
    }

    // ---- promises 33 to 38

    private static void demands() {
        Sentences.holds("Promise 33", "---- figures; a base or an item NONE stands for all of them",
                FigureSentences::noneStandsForAll);
        figure(33, DepotNetwork::demands);
        Sentences.holds("Promise 33",
                "Returns the number of demands so far, refused ones not included.",
                FigureSentences::refusedNotIncluded);
    }

    /** What all figures share: NONE is taken, and nothing else that is no base or item. */
    private static void figure(int promise, SiteSentences.Asker asker) {
        String section = "Promise " + promise;
        Sentences.holds(section, "- `base`: a base, or NONE", () -> {
            DepotNetwork x = Nets.busy();
            Check.happens("the first base", () -> asker.ask(x, 1, 0));
            Check.happens("the last base", () -> asker.ask(x, 3, 0));
            Check.happens("NONE", () -> asker.ask(x, -1, 0));
            Check.happens("NONE where there is no base", () -> asker.ask(Nets.bases(), -1, 0));
        });
        Sentences.holds(section, "- `item`: an item, or NONE", () -> {
            DepotNetwork x = Nets.busy();
            Check.happens("the first item", () -> asker.ask(x, 1, 0));
            Check.happens("the last item", () -> asker.ask(x, 1, 1));
            Check.happens("NONE", () -> asker.ask(x, 1, -1));
            Check.happens("both NONE", () -> asker.ask(x, -1, -1));
            Check.happens("NONE where there is none", () -> asker.ask(new DepotNetwork(), -1, -1));
        });
        Sentences.holds(section, NO_BASE_OR_ITEM, () -> wrongFigure(asker));
    }

    private static void wrongFigure(SiteSentences.Asker asker) {
        DepotNetwork x = Nets.bases(1, 2);
        x.addItem(1, 1, 1);
        for (int no : new int[] {0, 3, -2, 8, Integer.MIN_VALUE, Integer.MAX_VALUE}) {
            Check.index("base " + no, () -> asker.ask(x, no, 0));
            Check.index("base " + no + ", item NONE", () -> asker.ask(x, no, -1));
        }
        for (int no : new int[] {2, -2, 4, Integer.MIN_VALUE, Integer.MAX_VALUE}) {
            Check.index("item " + no, () -> asker.ask(x, 1, no));
            Check.index("base NONE, item " + no, () -> asker.ask(x, -1, no));
        }
    }

    private static void noneStandsForAll() {
        DepotNetwork x = Nets.bases(20, 20);
        x.addItem(5, 1, 3);
        x.setLevel(1, 0, 1);
        x.setLevel(1, 1, 2);
        x.setLevel(2, 0, 4);
        x.setLevel(2, 1, 8);
        x.setLink(1, 2, 1);
        x.setLateralLimit(1);
        Nets.demands(x, 4, 1, 0, 0);
        Nets.demands(x, 6, 1, 1, 0);
        x.advance(1);
        Nets.demands(x, 8, 2, 0, 0);
        Nets.demands(x, 11, 2, 1, 0);
        x.advance(1);
        sums("demands", DepotNetwork::demands, x, 4, 6, 8, 11);
        sums("delays", DepotNetwork::delays, x, 3, 4, 0, 0);
        sums("helped", DepotNetwork::helped, x, 0, 0, 3, 4);
        sums("backorderDays", DepotNetwork::backorderDays, x, 0, 0, 7, 7);
        Check.is("1/4 1/3 1/8 4/11", "fill rates", rate(x, 1, 0) + " " + rate(x, 1, 1) + " "
                + rate(x, 2, 0) + " " + rate(x, 2, 1));
        Check.is("3/10 5/19 1/6 6/17 8/29", "their sums", rate(x, 1, -1) + " " + rate(x, 2, -1)
                + " " + rate(x, -1, 0) + " " + rate(x, -1, 1) + " " + rate(x, -1, -1));
    }

    private static String rate(DepotNetwork x, int base, int item) {
        return x.fillNumerator(base, item) + "/" + x.fillDenominator(base, item);
    }

    private static void sums(String name, SiteSentences.Asker asker, DepotNetwork x, int... due) {
        for (int cell = 0; cell < 4; cell++) {
            Check.is(due[cell], name + " of one", asker.ask(x, 1 + cell / 2, cell % 2));
        }
        Check.is(due[0] + due[1], name + " of base 1", asker.ask(x, 1, -1));
        Check.is(due[2] + due[3], name + " of base 2", asker.ask(x, 2, -1));
        Check.is(due[0] + due[2], name + " of item 0", asker.ask(x, -1, 0));
        Check.is(due[1] + due[3], name + " of item 1", asker.ask(x, -1, 1));
        Check.is(due[0] + due[1] + due[2] + due[3], name + " of all", asker.ask(x, -1, -1));
    }

    private static void refusedNotIncluded() {
        DepotNetwork x = Nets.bases(20);
        Check.is(0, "at first", x.demands(1, 0));
        x.setLevel(1, 0, 1);
        Nets.demands(x, 101, 1, 0, 0);
        Check.is(101, "one filled, 100 wait", x.demands(1, 0));
        Check.state("refused", () -> x.demand(1, 0, 0));
        Check.argument("wrong", () -> x.demand(1, 0, 10));
        x.setRate(1, 0, 100);
        x.run(0, 10);
        Check.is(10, "refused ones", x.refusedDemands());
        Check.is(101, "are not included", x.demands(1, 0));
        Check.is(101, "nor in the sum", x.demands(-1, -1));
    }

    private static void fillRate() {
        figure(34, DepotNetwork::fillNumerator);
        Sentences.holds("Promise 34", "Returns the numerator of the fill rate (the demands that were"
                + " filled at once, divided by all demands) in lowest terms; 0 if there were no"
                + " demands.", () -> {
                    int[][] due = {{0, 0, 0}, {0, 3, 0}, {3, 0, 1}, {4, 2, 2}, {5, 7, 5},
                        {9, 6, 3}, {12, 4, 3}, {1, 11, 1}, {20, 80, 1}, {18, 27, 2}};
                    for (int[] d : due) {
                        Check.is(d[2], d[0] + " filled, " + d[1] + " not",
                                filled(d[0], d[1]).fillNumerator(1, 0));
                    }
                });
        figure(35, DepotNetwork::fillDenominator);
        Sentences.holds("Promise 35", "Returns the denominator of the fill rate in lowest terms; 1"
                + " if the numerator is 0.", () -> {
                    int[][] due = {{0, 0, 1}, {0, 3, 1}, {3, 0, 1}, {4, 2, 3}, {5, 7, 12},
                        {9, 6, 5}, {12, 4, 4}, {1, 11, 12}, {20, 80, 5}, {18, 27, 5}};
                    for (int[] d : due) {
                        Check.is(d[2], d[0] + " filled, " + d[1] + " not",
                                filled(d[0], d[1]).fillDenominator(1, 0));
                    }
                });
    }

    /** So many demands filled at once, and so many customers; some of these are served later. */
    private static DepotNetwork filled(int atOnce, int not) {
        DepotNetwork x = Nets.bases(20);
        x.setLevel(1, 0, atOnce);
        Nets.demands(x, atOnce + not, 1, 0, 0);
        x.setLevel(1, 0, Math.min(20, atOnce + not / 2));
        return x;
    }

    private static void delaysBackordersHelp() {
        figure(36, DepotNetwork::delays);
        Sentences.holds("Promise 36",
                "Returns the sum of the delays of all customers who have waited and got a unit.",
                FigureSentences::sumOfDelays);
        figure(37, DepotNetwork::backorderDays);
        Sentences.holds("Promise 37", "Returns the backorder days.", () -> {
            DepotNetwork x = Nets.bases(20);
            Check.is(0, "at first", x.backorderDays(1, 0));
            Nets.demands(x, 3, 1, 0, 0);
            Check.is(0, "on the very day", x.backorderDays(1, 0));
            x.advance(4);
            Check.is(12, "three for four days", x.backorderDays(1, 0));
            x.setLevel(1, 0, 2);
            Check.is(12, "they stay", x.backorderDays(1, 0));
            x.advance(2);
            Check.is(14, "one for two days more", x.backorderDays(1, 0));
        });
        figure(38, DepotNetwork::helped);
        Sentences.holds("Promise 38", "Returns how many units the base has sent as a helper.",
                FigureSentences::unitsSent);
    }

    private static void sumOfDelays() {
        DepotNetwork x = Nets.bases(20);
        x.setLevel(1, 0, 1);
        x.demand(1, 0, 0);
        x.advance(3);
        x.setLevel(1, 0, 1);
        Check.is(0, "filled at once: no delay", x.delays(1, 0));
        x.demand(1, 0, 0);
        x.demand(1, 0, 9);
        x.advance(2);
        Check.is(0, "who waits has none yet", x.delays(1, 0));
        x.setLevel(1, 0, 2);
        Check.is(2, "one has got a unit", x.delays(1, 0));
        x.advance(1);
        x.setLevel(1, 0, 3);
        Check.is(5, "and the other", x.delays(1, 0));
        x.demand(1, 0, 0);
        x.setLevel(1, 0, 4);
        Check.is(5, "served on the very day", x.delays(1, 0));
    }

    private static void unitsSent() {
        DepotNetwork x = Nets.bases(4, 6);
        x.setLevel(2, 0, 3);
        x.setLink(1, 2, 2);
        x.setLateralLimit(2);
        x.setShare(1, 0, 10);
        Check.is(0, "at first", x.helped(2, 0));
        Nets.demands(x, 2, 1, 0, 0);
        Check.is(2, "base 2 has sent two", x.helped(2, 0));
        Check.is(0, "base 1 none", x.helped(1, 0));
        x.advance(3);
        Check.is(2, "LATERAL back", x.underWay(0, 3));
        Check.is(0, "which is no help", x.helped(1, 0));
        x.demand(2, 0, 0);
        Check.is(2, "nor is a demand of its own", x.helped(2, 0));
    }

    // ---- promise 39

    private static void bestSite() {
        String finds = "Finds the site where one more unit would help most: for each site, its"
                + " level of the item is raised by 1 on trial, and then days pass with random"
                + " demands as in run().";
        Sentences.holds(BEST, finds, FigureSentences::asIfTried);
        Sentences.holds(BEST, finds, FigureSentences::oneUnitOfTheItem);
        String fewest = "The best site is the one for which the backorder days of all bases and"
                + " items are fewest in the end; of several the lowest.";
        Sentences.holds(BEST, fewest, FigureSentences::fewestBackorderDays);
        Sentences.holds(BEST, fewest, FigureSentences::ofAllBasesAndItems);
        Sentences.holds(BEST, fewest, FigureSentences::ofSeveralTheLowest);
        Sentences.holds(BEST, "Sites with the level 20 are left out.",
                FigureSentences::fullSites);
        Sentences.holds(BEST, "Nothing changes.", FigureSentences::nothingChanges);
        Sentences.holds(BEST, "- `seed`: 0 to 2147483647", () -> {
            DepotNetwork x = Nets.bases(2);
            Check.happens("0", () -> x.bestSite(0, 0, 1));
            Check.happens("2147483647", () -> x.bestSite(0, 2147483647, 1));
            Check.argument("-1", () -> x.bestSite(0, -1, 1));
            Check.argument("-2147483648", () -> x.bestSite(0, Integer.MIN_VALUE, 1));
        });
        Sentences.holds(BEST, "- `days`: 1 to 10", () -> {
            DepotNetwork x = Nets.bases(2);
            SiteSentences.range(1, 10, days -> x.bestSite(0, 0, days));
        });
        Sentences.holds(BEST, "Returns the site; NONE if all sites are left out.",
                FigureSentences::allLeftOut);
        Sentences.holds(BEST, "Throws `IndexOutOfBoundsException` if there is no such item", () -> {
            DepotNetwork x = Nets.bases(2);
            for (int no : new int[] {-1, 1, 4, Integer.MIN_VALUE, Integer.MAX_VALUE}) {
                Check.index("item " + no, () -> x.bestSite(no, 0, 1));
            }
            Check.index("no item at all", () -> new DepotNetwork().bestSite(0, 0, 1));
        });
        Sentences.holds(BEST,
                "Throws `IllegalArgumentException` if another argument is out of range", () -> {
                    DepotNetwork x = Nets.busy();
                    Check.argument("seed -1", () -> x.bestSite(1, -1, 1));
                    Check.argument("days 0", () -> x.bestSite(1, 0, 0));
                    Check.argument("days 11", () -> x.bestSite(1, 0, 11));
                });
        Sentences.holds(BEST, "Throws `IllegalStateException` if the present day would be greater"
                + " than 9999", FigureSentences::trialBeyondTheEnd);
    }

    /** The same trials by the other methods; the answers are not all the same site. */
    private static void asIfTried() {
        boolean[] answered = new boolean[4];
        for (int seed = 0; seed < 60; seed++) {
            DepotNetwork x = Nets.bases(2, 1, 3);
            x.addItem(3, 2, 2);
            for (int b = 1; b <= 3; b++) {
                x.setLevel(b, 0, 1);
                x.setRate(b, 0, 60);
                x.setRate(b, 1, 30);
            }
            x.setLink(1, 3, 1);
            x.setLateralLimit(1);
            x.run(seed, 6);
            int item = seed % 2;
            int days = 1 + seed % 10;
            int due = tried(x, item, seed * 7919, days);
            int got = x.bestSite(item, seed * 7919, days);
            Check.is(due, "seed " + seed, got);
            if (got >= 0) {
                answered[got] = true;
            }
        }
        for (int site = 0; site <= 3; site++) {
            Check.is(true, "site " + site + " was best once", answered[site]);
        }
    }

    private static int tried(DepotNetwork x, int item, int seed, int days) {
        x.save(0);
        int best = -1;
        int fewest = Integer.MAX_VALUE;
        for (int site = 0; site < x.siteCount(); site++) {
            if (x.level(site, item) < 20) {
                x.setLevel(site, item, x.level(site, item) + 1);
                x.run(seed, days);
                if (x.backorderDays(-1, -1) < fewest) {
                    fewest = x.backorderDays(-1, -1);
                    best = site;
                }
                x.restore(0);
            }
        }
        return best;
    }

    private static void oneUnitOfTheItem() {
        DepotNetwork x = Nets.bases(20, 20);
        x.addItem(5, 1, 3);
        x.demand(2, 0, 0);
        Check.is(2, "item 0: where a customer waits", x.bestSite(0, 0, 1));
        Check.is(0, "item 1: no help anywhere", x.bestSite(1, 0, 1));
        x.demand(1, 1, 0);
        Check.is(1, "item 1: where its customer waits", x.bestSite(1, 0, 1));
        DepotNetwork y = Nets.bases(2, 2);
        y.demand(1, 0, 0);
        Nets.demands(y, 5, 2, 0, 0);
        y.setLevel(2, 0, 4);
        Check.is(1, "one unit helps one customer, at base 1 or 2", y.bestSite(0, 0, 1));
    }

    private static void fewestBackorderDays() {
        DepotNetwork x = Nets.bases(5, 2);
        x.demand(2, 0, 0);
        x.demand(1, 0, 9);
        Check.is(1, "the unit is at base 1 at once", x.bestSite(0, 0, 3));
        x.setLevel(1, 0, 1);
        Check.is(2, "then base 2", x.bestSite(0, 0, 3));
        DepotNetwork y = Nets.bases(5, 5);
        y.setRate(2, 0, 100);
        Check.is(2, "where demands will come", y.bestSite(0, 3, 2));
        y.demand(1, 0, 0);
        y.advance(1);
        Check.is(1, "where one waits already", y.bestSite(0, 3, 1));
    }

    /**
     * A unit for the customer at base 1 saves one backorder day of item 0; but as 99 wait then
     * instead of 100, a customer of item 1 comes a day earlier, which costs one.
     */
    private static void ofAllBasesAndItems() {
        DepotNetwork x = Nets.bases(2, 20);
        x.addItem(5, 1, 3);
        x.setLevel(0, 0, 1);
        x.demand(1, 0, 0);
        Nets.demands(x, 99, 2, 1, 0);
        Check.is(1, "without item 1, base 1 is best", x.bestSite(0, 0, 5));
        x.setRate(2, 1, 100);
        Check.is(0, "with it, all are alike", x.bestSite(0, 0, 5));
    }

    private static void ofSeveralTheLowest() {
        DepotNetwork x = Nets.bases(5, 5, 5);
        Check.is(0, "no demands: the depot", x.bestSite(0, 0, 10));
        x.setLevel(0, 0, 20);
        Check.is(1, "without the depot: base 1", x.bestSite(0, 0, 10));
        DepotNetwork y = Nets.bases(5, 5, 5);
        y.demand(3, 0, 0);
        y.demand(2, 0, 0);
        Check.is(2, "base 2 as good as base 3", y.bestSite(0, 0, 4));
    }

    private static void fullSites() {
        DepotNetwork x = Nets.bases(2, 2);
        x.setLevel(0, 0, 20);
        Check.is(1, "the depot is left out", x.bestSite(0, 0, 1));
        x.setLevel(0, 0, 19);
        Check.is(0, "with 19 it is not", x.bestSite(0, 0, 1));
        x.setLevel(0, 0, 0);
        x.setLevel(1, 0, 20);
        x.addItem(5, 1, 3);
        Nets.demands(x, 25, 1, 0, 0);
        Check.is(0, "base 1 is left out, though customers wait", x.bestSite(0, 0, 1));
        Check.is(0, "its level of item 1 is another matter", x.bestSite(1, 0, 1));
        DepotNetwork y = Nets.bases(2, 2);
        y.setLevel(1, 0, 19);
        Nets.demands(y, 25, 1, 0, 0);
        Check.is(1, "with 19 it is not", y.bestSite(0, 0, 1));
    }

    private static void nothingChanges() {
        DepotNetwork x = Nets.busy();
        DepotNetwork y = Nets.busy();
        y.save(1);
        Nets.write(y, "limit 99;");
        y.load();
        y.appendText(0);
        for (int k = 0; k < 6; k++) {
            y.bestSite(k % 2, k, 10 - k);
        }
        Check.is(Nets.seen(x), "what can be seen", Nets.seen(y));
        Check.is(2, "the latest error", y.errorCode());
        Check.is(6, "its position", y.errorPosition());
        Check.is(8, "the text", y.appendText(0));
        x.run(9, 20);
        y.run(9, 20);
        Check.is(Nets.seenFor(x, 40), "the days to come", Nets.seenFor(y, 40));
        DepotNetwork loaded = new DepotNetwork();
        Nets.write(loaded, "item 1 1 1;base 1;level 1 0 3;rate 1 0 100;");
        loaded.load();
        String before = Nets.seen(loaded);
        loaded.bestSite(0, 1, 10);
        Check.is(before, "a network that was loaded", Nets.seen(loaded));
        DepotNetwork z = Nets.busy();
        y.restore(1);
        Check.is(Nets.seenFor(z, 40), "the saved state", Nets.seenFor(y, 40));
    }

    private static void allLeftOut() {
        DepotNetwork x = Nets.bases(2, 2);
        x.setLevel(0, 0, 20);
        x.setLevel(1, 0, 20);
        Check.is(2, "the last one", x.bestSite(0, 0, 1));
        x.setLevel(2, 0, 20);
        Check.is(-1, "none", x.bestSite(0, 0, 1));
        x.setLevel(1, 0, 19);
        Check.is(1, "one again", x.bestSite(0, 0, 1));
        DepotNetwork y = Nets.bases();
        Check.is(0, "the depot alone", y.bestSite(0, 0, 1));
        y.setLevel(0, 0, 20);
        Check.is(-1, "not even the depot", y.bestSite(0, 0, 1));
    }

    private static void trialBeyondTheEnd() {
        DepotNetwork x = Nets.bases(2);
        Nets.toDay(x, 9989);
        Check.is(0, "10 days to day 9999", x.bestSite(0, 0, 10));
        x.advance(1);
        Check.state("10 days to day 10000", () -> x.bestSite(0, 0, 10));
        Check.is(0, "9 days to day 9999", x.bestSite(0, 0, 9));
        x.advance(9);
        Check.state("one day to day 10000", () -> x.bestSite(0, 0, 1));
        Check.is(9999, "day()", x.day());
    }
}
