/** The sentences of the promises 45 and 46, and on exceptions. */
final class StateSentences {
    private static final String NO_SLOT =
            "Throws `IllegalArgumentException` if slot is out of range";
    private static final int[] NO_SLOTS = {-1, 2, 3, Integer.MIN_VALUE, Integer.MAX_VALUE};

    private StateSentences() {
    }

    static void all() {
        saving();
        restoring();
        Sentences.holds("EXCEPTIONS", "A method that throws an exception changes nothing.",
                StateSentences::nothingChanges);
        Sentences.holds("EXCEPTIONS", "If several exceptions apply, the one that comes first in the"
                + " method's list of exceptions is thrown.", StateSentences::theFirstOne);
    }

    private static int save(DepotNetwork x, int slot) {
        x.save(slot);
        return 0;
    }

    private static int restore(DepotNetwork x, int slot) {
        x.restore(slot);
        return 0;
    }

    // ---- promise 45

    private static void saving() {
        Sentences.noRule("Promise 45", "---- saved states");
        String whole = "Saves the whole network with all that is under way, the present day and all"
                + " figures.";
        Sentences.holds("Promise 45", whole, StateSentences::savesAll);
        Sentences.holds("Promise 45", whole, StateSentences::savesAFullNetwork);
        Sentences.holds("Promise 45", whole, StateSentences::savesTheRefused);
        Sentences.holds("Promise 45", whole, StateSentences::savesTimesAndPlaces);
        Sentences.holds("Promise 45", whole, StateSentences::savesEverySetting);
        Sentences.holds("Promise 45",
                "- `slot`: 0 or 1; a state that is already saved there is replaced",
                StateSentences::replaces);
        Sentences.holds("Promise 45", NO_SLOT, () -> {
            DepotNetwork x = Nets.bases(2);
            for (int slot : NO_SLOTS) {
                Check.argument("save(" + slot + ")", () -> save(x, slot));
            }
            Check.state("nothing in slot 0", () -> restore(x, 0));
            Check.state("nothing in slot 1", () -> restore(x, 1));
        });
    }

    private static void savesAll() {
        for (int slot = 0; slot <= 1; slot++) {
            DepotNetwork x = Nets.busy();
            DepotNetwork y = Nets.busy();
            x.save(slot);
            Check.is(Nets.seen(y), "saving changes nothing", Nets.seen(x));
            x.run(8, 30);
            x.setLevel(3, 0, 20);
            x.setLink(1, 3, 6);
            x.setLateralLimit(20);
            x.setShare(3, 1, 9);
            x.setReserve(1, 1, 9);
            x.setRate(3, 0, 1);
            x.addItem(1, 1, 1);
            x.addBase(1);
            x.restore(slot);
            Check.is(Nets.seen(y), "all that can be seen", Nets.seen(x));
            x.run(8, 30);
            y.run(8, 30);
            Check.is(Nets.seenFor(y, 40), "and the days to come", Nets.seenFor(x, 40));
        }
    }

    private static void savesAFullNetwork() {
        DepotNetwork x = Nets.full(20);
        DepotNetwork y = Nets.full(20);
        for (int k = 0; k < 200; k++) {
            x.demand(1 + k % 7, k % 4, k % 10);
            y.demand(1 + k % 7, k % 4, k % 10);
        }
        for (int i = 0; i < 4; i++) {
            x.setLevel(0, i, 20);
            y.setLevel(0, i, 20);
        }
        Check.is(280, "under way", x.dueCount());
        x.save(1);
        x.advance(60);
        x.restore(1);
        Check.is(Nets.seenFor(y, 60), "280 units", Nets.seenFor(x, 60));
        DepotNetwork z = new DepotNetwork();
        z.save(0);
        z.addItem(1, 1, 1);
        z.addBase(1);
        z.advance(3);
        z.restore(0);
        Check.is(Nets.seen(new DepotNetwork()), "the depot alone", Nets.seen(z));
        Check.is(0, "without items", z.itemCount());
        Check.is(1, "one site", z.siteCount());
    }

    private static void savesTheRefused() {
        DepotNetwork x = Nets.bases(20);
        Nets.demands(x, 100, 1, 0, 3);
        x.setRate(1, 0, 100);
        x.run(1, 4);
        x.save(0);
        x.run(1, 5);
        Check.is(9, "refused", x.refusedDemands());
        x.restore(0);
        Check.is(4, "refused then", x.refusedDemands());
        Check.state("100 wait then", () -> x.demand(1, 0, 0));
    }

    private static void savesTimesAndPlaces() {
        DepotNetwork x = new DepotNetwork();
        x.addItem(9, 2, 8);
        x.addBase(7);
        x.save(0);
        Nets.write(x, "item 1 1 1;base 1;");
        x.load();
        x.save(1);
        x.restore(0);
        Nets.demands(x, 3, 1, 0, 0);
        x.setShare(1, 0, 10);
        x.demand(1, 0, 0);
        x.advance(7);
        Check.is("8 1 0 1 1, 16 1 0 0 0, 16 1 0 0 0", "slot 0", Nets.units(x));
        x.restore(1);
        Nets.demands(x, 3, 1, 0, 0);
        x.setShare(1, 0, 10);
        x.demand(1, 0, 0);
        Check.is("1 0 0 0 0, 1 0 0 0 0, 1 0 0 0 0, 1 1 0 1 1", "slot 1", Nets.units(x));
        x.advance(1);
        Check.is("2 1 0 0 0", "slot 1, a day later", Nets.units(x));
    }

    /** Four items and seven bases, and no two of them are alike. */
    private static DepotNetwork allDifferent() {
        DepotNetwork x = new DepotNetwork();
        for (int i = 0; i < 4; i++) {
            x.addItem(3 + 2 * i, 1 + i, 20 - 3 * i);
        }
        for (int b = 1; b <= 7; b++) {
            x.addBase(2 * b + 3);
            for (int other = 1; other < b; other++) {
                x.setLink(b, other, 1 + (5 * b + other) % 20);
            }
            for (int i = 0; i < 4; i++) {
                x.setLevel(b, i, b + i);
                x.setShare(b, i, (b + 3 * i) % 11);
                x.setReserve(b, i, 2 * b + i);
                x.setRate(b, i, 10 * b + 7 * i);
            }
        }
        x.setLateralLimit(12);
        return x;
    }

    private static void savesEverySetting() {
        DepotNetwork x = allDifferent();
        DepotNetwork y = allDifferent();
        x.save(0);
        x.load();
        Nets.write(x, "item 1 1 1;".repeat(4) + "base 1;".repeat(7));
        x.load();
        x.save(1);
        x.restore(0);
        Check.is(Nets.seen(y), "what is set", Nets.seen(x));
        for (int b = 1; b <= 7; b++) {
            for (int i = 0; i < 4; i++) {
                Nets.demands(x, 4, b, i, (b + i) % 10);
                Nets.demands(y, 4, b, i, (b + i) % 10);
            }
        }
        Check.is(Nets.seenFor(y, 40), "what comes of it", Nets.seenFor(x, 40));
    }

    private static void replaces() {
        DepotNetwork x = Nets.bases(2);
        for (int slot = 0; slot <= 1; slot++) {
            x.save(slot);
            x.advance(1);
        }
        x.restore(0);
        Check.is(0, "slot 0", x.day());
        x.restore(1);
        Check.is(1, "slot 1", x.day());
        x.advance(4);
        x.save(1);
        x.advance(1);
        x.restore(1);
        Check.is(5, "slot 1 is replaced", x.day());
        x.restore(0);
        Check.is(0, "slot 0 is not", x.day());
        x.advance(9);
        x.save(0);
        x.restore(1);
        Check.is(5, "slot 1 still", x.day());
        x.restore(0);
        Check.is(9, "slot 0 is replaced", x.day());
        replacesALargerState();
    }

    private static void replacesALargerState() {
        DepotNetwork x = Nets.busy();
        x.save(0);
        Nets.write(x, "item 1 1 1;base 1;");
        x.load();
        x.save(0);
        x.demand(1, 0, 0);
        x.restore(0);
        DepotNetwork y = new DepotNetwork();
        y.addItem(1, 1, 1);
        y.addBase(1);
        Check.is(Nets.seen(y), "nothing of the larger one is left", Nets.seen(x));
        y.addItem(2, 2, 2);
        x.addItem(2, 2, 2);
        y.addBase(2);
        x.addBase(2);
        Check.is(Nets.seen(y), "nor where the network grows", Nets.seen(x));
    }

    // ---- promise 46

    private static void restoring() {
        Sentences.holds("Promise 46", "Brings back a saved state, which stays saved.",
                StateSentences::staysSaved);
        Sentences.holds("Promise 46", "- `slot`: 0 or 1", () -> {
            DepotNetwork x = Nets.bases(2);
            x.save(0);
            x.addBase(3);
            x.save(1);
            Check.is(0, "slot 0", restore(x, 0));
            Check.is(2, "sites", x.siteCount());
            Check.is(0, "slot 1", restore(x, 1));
            Check.is(3, "sites", x.siteCount());
        });
        Sentences.holds("Promise 46", NO_SLOT, () -> {
            DepotNetwork x = Nets.bases(2);
            x.save(0);
            x.save(1);
            for (int slot : NO_SLOTS) {
                Check.argument("restore(" + slot + ")", () -> restore(x, slot));
            }
        });
        Sentences.holds("Promise 46", "Throws `IllegalStateException` if nothing is saved there",
                () -> {
                    DepotNetwork x = Nets.bases(2);
                    Check.state("slot 0", () -> restore(x, 0));
                    Check.state("slot 1", () -> restore(x, 1));
                    x.save(1);
                    Check.state("slot 0 still", () -> restore(x, 0));
                    Check.is(0, "slot 1", restore(x, 1));
                    DepotNetwork y = Nets.bases(2);
                    y.save(0);
                    Check.state("slot 1 of another object", () -> restore(y, 1));
                });
    }

    private static void staysSaved() {
        DepotNetwork x = Nets.busy();
        x.save(0);
        x.advance(2);
        String later = Nets.seenFor(x, 10);
        for (int k = 0; k < 3; k++) {
            x.restore(0);
            x.advance(2);
            Check.is(later, "brought back again", Nets.seenFor(x, 10));
            x.setLevel(0, 0, 20);
            x.setLink(1, 2, 1 + k);
            x.setRate(1, 0, k);
            x.run(k, 10);
            x.bestSite(0, k, 10);
        }
        x.load();
        x.restore(0);
        x.advance(2);
        Check.is(later, "after load", Nets.seenFor(x, 10));
    }

    // ---- exceptions

    /** Every method that throws, with each of its exceptions, on a network that is full. */
    private static void nothingChanges() {
        DepotNetwork x = full();
        DepotNetwork y = full();
        String before = Nets.seen(y);
        Check.Call[] argument = {() -> x.addItem(0, 1, 1), () -> x.addItem(1, 6, 1),
            () -> x.addItem(1, 1, 31), () -> x.addBase(21), () -> x.setLink(1, 1, 1),
            () -> x.setLink(1, 2, 21), () -> x.setLevel(1, 0, 21), () -> x.setShare(1, 0, 11),
            () -> x.setReserve(1, 0, 21), () -> x.setRate(1, 0, 101),
            () -> x.setLateralLimit(21), () -> x.demand(1, 0, 10), () -> x.advance(61),
            () -> x.run(-1, 1), () -> x.run(1, 31), () -> x.underWay(0, 5),
            () -> x.bestSite(0, -1, 1), () -> x.bestSite(0, 1, 11), () -> x.truncateText(501),
            () -> save(x, 2), () -> restore(x, 2)};
        Check.Call[] index = {() -> x.setLink(1, 0, 1), () -> x.setLink(8, 1, 1),
            () -> x.setLevel(8, 0, 1), () -> x.setLevel(0, 4, 1), () -> x.setShare(0, 0, 1),
            () -> x.setShare(1, 4, 1), () -> x.setReserve(0, 0, 1), () -> x.setReserve(1, 4, 1),
            () -> x.setRate(0, 0, 1), () -> x.setRate(1, 4, 1), () -> x.demand(0, 0, 0),
            () -> x.demand(1, 4, 0), () -> x.level(8, 0), () -> x.onHand(8, 0),
            () -> x.waiting(8, 0), () -> x.topPriority(8, 0), () -> x.keptOrders(4),
            () -> x.dueIn(8, 0), () -> x.position(8, 0), () -> x.underWay(4, 0),
            () -> x.fleet(4), () -> x.nextArrival(8, 0), () -> x.dueDay(300),
            () -> x.dueKind(300), () -> x.dueItem(300), () -> x.dueSite(300),
            () -> x.dueOwner(300), () -> x.demands(8, 0), () -> x.fillNumerator(8, 0),
            () -> x.fillDenominator(8, 0), () -> x.delays(8, 0), () -> x.backorderDays(8, 0),
            () -> x.helped(8, 0), () -> x.bestSite(4, 0, 1)};
        Check.Call[] state = {() -> x.addItem(1, 1, 1), () -> x.addBase(1),
            () -> x.setLevel(1, 0, 0), () -> x.demand(1, 0, 0), () -> x.advance(60),
            () -> x.run(1, 30), () -> x.bestSite(0, 1, 10), () -> x.appendText(0x3b3b3b3b),
            () -> restore(x, 1)};
        for (int k = 0; k < argument.length; k++) {
            Check.argument("argument " + k, argument[k]);
            Check.is(before, "nothing changes by argument " + k, Nets.seen(x));
        }
        for (int k = 0; k < index.length; k++) {
            Check.index("index " + k, index[k]);
            Check.is(before, "nothing changes by index " + k, Nets.seen(x));
        }
        for (int k = 0; k < state.length; k++) {
            Check.state("state " + k, state[k]);
            Check.is(before, "nothing changes by state " + k, Nets.seen(x));
        }
        textAndSlotsStay(x);
        Check.is(Nets.seenFor(y, 9), "on the days to come", Nets.seenFor(x, 9));
    }

    private static void textAndSlotsStay(DepotNetwork x) {
        Check.is(1, "the latest error", x.errorCode());
        Check.is(3, "its position", x.errorPosition());
        Check.is(500, "the text's length", x.truncateText(500));
        String before = Nets.seen(x);
        x.save(1);
        x.restore(0);
        Check.is(0, "slot 0 is as it was", x.day());
        Check.is(62, "the text is as it was", x.load());
        x.restore(1);
        Check.is(before, "and slot 1 could be used", Nets.seen(x));
    }

    /** Day 9990, four items, seven bases, 200 units under way, a full text, slot 1 is free. */
    private static DepotNetwork full() {
        DepotNetwork x = new DepotNetwork();
        x.save(0);
        Nets.write(x, "\n  ?");
        x.load();
        for (int i = 0; i < 4; i++) {
            x.addItem(30, 1, 30);
        }
        Nets.addBases(x, 20, 20, 20, 20, 20, 20, 20);
        Nets.toDay(x, 9990);
        for (int b = 2; b <= 7; b++) {
            for (int i = 0; i < 4; i++) {
                x.setLevel(b, i, 20);
            }
        }
        x.setLevel(1, 0, 1);
        x.setShare(1, 0, 5);
        Nets.demands(x, 3, 1, 0, 4);
        for (int k = 0; k < 197; k++) {
            x.demand(2 + k % 6, k / 6 % 4, 4);
        }
        Nets.write(x, "limit 1;".repeat(62) + "    ");
        return x;
    }

    private static void theFirstOne() {
        DepotNetwork x = full();
        Check.argument("addItem: range before 4 items", () -> x.addItem(0, 1, 1));
        Check.argument("addItem: places", () -> x.addItem(1, 0, 1));
        Check.argument("addItem: local time", () -> x.addItem(1, 1, 31));
        Check.argument("addBase: range before 7 bases", () -> x.addBase(0));
        Check.index("setLink: no base before the same", () -> x.setLink(0, 0, 1));
        Check.index("setLink: no base before a range", () -> x.setLink(8, 1, 21));
        Check.index("setLink: no other base before a range", () -> x.setLink(1, 8, -1));
        Check.index("setLevel: no site before a range", () -> x.setLevel(8, 0, 21));
        Check.index("setLevel: no item before a range", () -> x.setLevel(1, 4, -1));
        Check.argument("setLevel: range before a sale", () -> x.setLevel(1, 0, -1));
        Check.index("setShare: no base", () -> x.setShare(0, 0, 11));
        Check.index("setShare: no item", () -> x.setShare(1, 4, -1));
        Check.index("setReserve: no base", () -> x.setReserve(0, 0, 21));
        Check.index("setReserve: no item", () -> x.setReserve(1, 4, -1));
        Check.index("setRate: no base", () -> x.setRate(0, 0, 101));
        Check.index("setRate: no item", () -> x.setRate(1, 4, -1));
        Check.index("demand: no base before a range", () -> x.demand(0, 0, 10));
        Check.index("demand: no item before a range", () -> x.demand(1, 4, -1));
        Check.index("demand: no base before a refusal", () -> x.demand(8, 0, 0));
        Check.index("demand: no item before a refusal", () -> x.demand(1, -1, 0));
        Check.argument("demand: range before a refusal", () -> x.demand(1, 0, 10));
        Check.index("underWay: no item before a range", () -> x.underWay(4, 5));
        Check.index("bestSite: no item before a seed", () -> x.bestSite(4, -1, 1));
        Check.index("bestSite: no item before days", () -> x.bestSite(-1, 0, 0));
        Check.index("bestSite: no item before the end", () -> x.bestSite(4, 0, 10));
        Check.argument("bestSite: seed before the end", () -> x.bestSite(0, -1, 10));
        Check.argument("bestSite: days before the end", () -> x.bestSite(0, 0, 11));
        Check.argument("restore: range before nothing saved", () -> restore(x, 2));
        Check.argument("advance: range before the end", () -> x.advance(61));
        Check.argument("run: seed before the end", () -> x.run(-1, 30));
        Check.argument("run: days before the end", () -> x.run(0, 31));
        x.advance(9);
        Check.argument("advance: 0 on the last day", () -> x.advance(0));
        Check.argument("run: 0 on the last day", () -> x.run(0, 0));
        Check.argument("bestSite: 0 on the last day", () -> x.bestSite(0, 0, 0));
        Check.argument("advance: far beyond", () -> x.advance(Integer.MAX_VALUE));
        Check.argument("run: far beyond", () -> x.run(0, Integer.MAX_VALUE));
        Check.argument("bestSite: far beyond", () -> x.bestSite(0, 0, Integer.MAX_VALUE));
    }
}
