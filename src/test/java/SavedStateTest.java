/** Promises 45 and 46: save and restore. */
public final class SavedStateTest {
    private SavedStateTest() {
    }

    public static void main(String[] args) {
        wrongArguments();
        restoreBringsAllBack();
        statesReplaceEachOther();
        aSavedStateStays();
        slotsAreApart();
        textIsNotSaved();
        Check.end("SavedStateTest");
    }

    private static void save(DepotNetwork x, int slot) {
        Check.happens("save(" + slot + ")", () -> x.save(slot));
    }

    private static void restore(DepotNetwork x, int slot) {
        Check.happens("restore(" + slot + ")", () -> x.restore(slot));
    }

    private static void wrongArguments() {
        DepotNetwork x = new DepotNetwork();
        for (int slot : new int[] {-1, 2, Integer.MAX_VALUE, Integer.MIN_VALUE}) {
            Check.argument("save", () -> {
                x.save(slot);
                return 0;
            });
            Check.argument("restore", () -> {
                x.restore(slot);
                return 0;
            });
        }
        save(x, 1);
        Check.state("slot 0 is still empty", () -> {
            x.restore(0);
            return 0;
        });
        restore(x, 1);
    }

    private static DepotNetwork busy() {
        DepotNetwork x = new DepotNetwork();
        x.addItem(5, 1, 3);
        x.addItem(7, 2, 4);
        x.addBase(2);
        x.addBase(4);
        x.setRate(1, 1, 90);
        x.setRate(2, 1, 50);
        x.setLevel(1, 1, 3);
        x.setLevel(0, 0, 1);
        x.setLevel(2, 0, 2);
        x.setLink(1, 2, 3);
        x.setLateralLimit(4);
        x.setShare(1, 0, 5);
        x.setReserve(2, 0, 1);
        x.setRate(1, 0, 70);
        x.setRate(2, 0, 60);
        x.run(11, 9);
        return x;
    }

    private static String seen(DepotNetwork x) {
        StringBuilder out = new StringBuilder();
        out.append(x.itemCount()).append(' ').append(x.siteCount()).append(' ');
        out.append(x.day()).append(' ').append(x.refusedDemands()).append('\n');
        for (int i = 0; i < x.itemCount(); i++) {
            for (int s = 0; s < x.siteCount(); s++) {
                out.append(x.level(s, i)).append(' ').append(x.onHand(s, i)).append(' ');
            }
            for (int b = 1; b < x.siteCount(); b++) {
                out.append(x.waiting(b, i)).append(' ').append(x.topPriority(b, i)).append(' ');
                out.append(x.dueIn(b, i)).append(' ').append(x.demands(b, i)).append(' ');
                out.append(x.fillNumerator(b, i)).append('/').append(x.fillDenominator(b, i));
                out.append(' ').append(x.delays(b, i)).append(' ').append(x.backorderDays(b, i));
                out.append(' ').append(x.helped(b, i)).append(' ');
            }
            out.append(x.keptOrders(i)).append(' ').append(x.underWay(i, 4)).append('\n');
        }
        for (int k = 0; k < x.dueCount(); k++) {
            out.append(x.dueDay(k)).append(' ').append(x.dueKind(k)).append(' ');
            out.append(x.dueItem(k)).append(' ').append(x.dueSite(k)).append(' ');
            out.append(x.dueOwner(k)).append('\n');
        }
        return out.toString();
    }

    private static void restoreBringsAllBack() {
        DepotNetwork x = busy();
        String before = seen(x);
        save(x, 0);
        x.run(5, 30);
        String after = seen(x);
        x.addItem(1, 1, 1);
        x.addBase(1);
        x.setLink(1, 2, 9);
        x.setLateralLimit(9);
        x.setShare(1, 0, 9);
        x.setReserve(2, 0, 9);
        x.setRate(1, 0, 9);
        restore(x, 0);
        Check.due(before, "the state", () -> seen(x));
        x.run(5, 30);
        Check.due(after, "it goes on as it did", () -> seen(x));
        restore(x, 0);
        Check.due(3, "link", () -> x.setLink(1, 2, 0));
        Check.due(4, "limit", () -> x.setLateralLimit(0));
        Check.due(5, "share", () -> x.setShare(1, 0, 0));
        Check.due(1, "reserve", () -> x.setReserve(2, 0, 0));
        Check.due(70, "rate", () -> x.setRate(1, 0, 0));
        Check.due(2, "items", () -> x.addItem(2, 2, 2));
        Check.due(3, "bases", () -> x.addBase(2));
        Check.due(0, "a new base has no link", () -> x.setLink(3, 1, 1));
        Check.due(0, "a new item has no level", () -> x.level(2, 2));
    }

    /** Another network than busy(): refusals, helpers, and a link that is gone meanwhile. */
    private static void crowd(DepotNetwork x) {
        x.load();
        x.addItem(9, 3, 8);
        x.addItem(8, 4, 7);
        x.addItem(1, 1, 9);
        for (int b = 1; b <= 5; b++) {
            x.addBase(3 + b);
            x.setRate(b, 1, 100);
        }
        x.run(6, 30);
        x.setLevel(3, 1, 20);
        x.setLevel(2, 0, 6);
        x.setLink(1, 2, 3);
        x.setLateralLimit(3);
        x.setShare(1, 0, 10);
        for (int k = 0; k < 4; k++) {
            x.demand(1, 0, k);
        }
        x.setLink(1, 2, 0);
        Check.due(true, "there are refusals", () -> x.refusedDemands() > 0);
        Check.due(4, "there is help", () -> x.helped(2, 0));
    }

    private static String daysFrom(DepotNetwork x, int slot) {
        restore(x, slot);
        StringBuilder out = new StringBuilder(seen(x));
        for (int d = 0; d < 25; d++) {
            x.advance(1);
            out.append(seen(x));
        }
        return out.toString();
    }

    private static void statesReplaceEachOther() {
        DepotNetwork x = busy();
        save(x, 0);
        String busyDays = daysFrom(x, 0);
        crowd(x);
        save(x, 1);
        String crowdDays = daysFrom(x, 1);
        Check.due(false, "they differ", () -> busyDays.equals(crowdDays));
        Check.due(busyDays, "busy again", () -> daysFrom(x, 0));
        Check.due(crowdDays, "crowd again", () -> daysFrom(x, 1));
        restore(x, 0);
        save(x, 1);
        Check.due(busyDays, "busy in the place of crowd", () -> daysFrom(x, 1));
        crowd(x);
        save(x, 0);
        Check.due(crowdDays, "crowd in the place of busy", () -> daysFrom(x, 0));
        restore(x, 0);
        x.setLevel(4, 1, 20);
        x.setShare(5, 2, 10);
        x.demand(5, 2, 0);
        Check.due(9, "the local repair time of item 2", () -> x.nextArrival(5, 2));
        restore(x, 1);
        x.setShare(2, 1, 10);
        x.setLevel(2, 1, 20);
        x.demand(2, 1, 0);
        Check.due(4, "the local repair time of item 1", () -> x.nextArrival(2, 1));
    }

    private static void aSavedStateStays() {
        DepotNetwork x = busy();
        String before = seen(x);
        save(x, 0);
        for (int k = 0; k < 3; k++) {
            x.run(k, 4);
            restore(x, 0);
            Check.due(before, "again the same", () -> seen(x));
        }
        x.advance(7);
        String later = seen(x);
        save(x, 0);
        x.advance(7);
        restore(x, 0);
        Check.due(later, "a saved state is replaced", () -> seen(x));
    }

    private static void slotsAreApart() {
        DepotNetwork x = busy();
        String first = seen(x);
        save(x, 0);
        x.run(3, 3);
        String second = seen(x);
        save(x, 1);
        x.run(4, 4);
        x.bestSite(0, 1, 10);
        restore(x, 0);
        Check.due(first, "slot 0", () -> seen(x));
        x.load();
        restore(x, 1);
        Check.due(second, "slot 1", () -> seen(x));
        restore(x, 0);
        Check.due(first, "slot 0 again", () -> seen(x));
    }

    private static void textIsNotSaved() {
        DepotNetwork x = new DepotNetwork();
        save(x, 0);
        x.appendText(0x3b3b3b3b);
        x.load();
        x.appendText(0x20202020);
        restore(x, 0);
        Check.due(1, "errorCode is of the latest load", x::errorCode);
        Check.due(0, "errorPosition is of the latest load", x::errorPosition);
        Check.due(8, "the text buffer stays", () -> x.appendText(0x20202020));
    }
}
