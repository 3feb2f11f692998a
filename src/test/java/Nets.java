/** Networks that the tests begin with, and what can be seen of one. */
final class Nets {
    private Nets() {
    }

    /** One item (depot repair time 5, one place, local repair time 3), and bases. */
    static DepotNetwork bases(int... leads) {
        DepotNetwork x = new DepotNetwork();
        x.addItem(5, 1, 3);
        addBases(x, leads);
        return x;
    }

    static void addBases(DepotNetwork x, int... leads) {
        for (int lead : leads) {
            x.addBase(lead);
        }
    }

    /** Four items and seven bases; each base has 20 units of each item, the depot has none. */
    static DepotNetwork full(int lead) {
        DepotNetwork x = new DepotNetwork();
        for (int i = 0; i < 4; i++) {
            x.addItem(30, 1, 30);
        }
        for (int b = 1; b <= 7; b++) {
            x.addBase(lead);
            for (int i = 0; i < 4; i++) {
                x.setLevel(b, i, 20);
            }
        }
        return x;
    }

    /** Something of every kind: customers, kept orders, units in all states, help, refusals. */
    static DepotNetwork busy() {
        DepotNetwork x = new DepotNetwork();
        x.addItem(5, 1, 3);
        x.addItem(7, 2, 4);
        addBases(x, 2, 4, 3);
        x.setLevel(0, 0, 1);
        x.setLevel(1, 1, 3);
        x.setLevel(2, 0, 4);
        x.setLevel(3, 1, 2);
        x.setLink(1, 2, 3);
        x.setLink(2, 3, 5);
        x.setLateralLimit(4);
        x.setShare(1, 0, 5);
        x.setShare(2, 1, 3);
        x.setReserve(2, 0, 1);
        for (int b = 1; b <= 3; b++) {
            x.setRate(b, 0, 40 + 20 * b);
            x.setRate(b, 1, 100 - 20 * b);
        }
        x.run(11, 30);
        x.run(12, 30);
        x.setLevel(2, 0, 20);
        x.setLink(1, 2, 4);
        for (int k = 0; k < 4; k++) {
            x.demand(1, 0, k);
        }
        return x;
    }

    static void toDay(DepotNetwork x, int day) {
        while (x.day() < day) {
            x.advance(Math.min(60, day - x.day()));
        }
    }

    static void demands(DepotNetwork x, int count, int base, int item, int priority) {
        for (int k = 0; k < count; k++) {
            x.demand(base, item, priority);
        }
    }

    /** Writes the text into the empty buffer; what the last four bytes have too many is cut. */
    static void write(DepotNetwork x, String text) {
        for (int k = 0; k < text.length(); k += 4) {
            int four = 0;
            for (int j = k; j < k + 4; j++) {
                four = four << 8 | (j < text.length() ? text.charAt(j) : 0);
            }
            x.appendText(four);
        }
        x.truncateText(text.length());
    }

    /** All units with a due day: due day, kind, item, site and owner of each. */
    static String units(DepotNetwork x) {
        StringBuilder out = new StringBuilder();
        for (int k = 0; k < x.dueCount(); k++) {
            out.append(k == 0 ? "" : ", ").append(x.dueDay(k)).append(' ').append(x.dueKind(k));
            out.append(' ').append(x.dueItem(k)).append(' ').append(x.dueSite(k));
            out.append(' ').append(x.dueOwner(k));
        }
        return out.toString();
    }

    static int underWay(DepotNetwork x) {
        int sum = 0;
        for (int i = 0; i < x.itemCount(); i++) {
            for (int kind = 0; kind <= 4; kind++) {
                sum += x.underWay(i, kind);
            }
        }
        return sum;
    }

    /** All that the methods tell of the network, what is set included. */
    static String seen(DepotNetwork x) {
        StringBuilder out = new StringBuilder();
        out.append("day ").append(x.day()).append(" refused ").append(x.refusedDemands());
        int limit = x.setLateralLimit(0);
        x.setLateralLimit(limit);
        out.append(" limit ").append(limit).append('\n');
        for (int i = 0; i < x.itemCount(); i++) {
            out.append("item ").append(i).append(" fleet ").append(x.fleet(i));
            out.append(" kept ").append(x.keptOrders(i)).append(" under way");
            for (int kind = 0; kind <= 4; kind++) {
                out.append(' ').append(x.underWay(i, kind));
            }
            out.append('\n');
            for (int s = 0; s < x.siteCount(); s++) {
                out.append("site ").append(s).append(" level ").append(x.level(s, i));
                out.append(" on hand ").append(x.onHand(s, i)).append('\n');
            }
            for (int b = 1; b < x.siteCount(); b++) {
                seenOfBase(out, x, b, i);
            }
        }
        seenLinks(out, x);
        return out.append(units(x)).append('\n').toString();
    }

    private static void seenOfBase(StringBuilder out, DepotNetwork x, int b, int i) {
        int share = x.setShare(b, i, 0);
        x.setShare(b, i, share);
        int reserve = x.setReserve(b, i, 0);
        x.setReserve(b, i, reserve);
        int rate = x.setRate(b, i, 0);
        x.setRate(b, i, rate);
        int[] all = {share, reserve, rate, x.waiting(b, i), x.topPriority(b, i), x.dueIn(b, i),
            x.position(b, i), x.nextArrival(b, i), x.demands(b, i), x.fillNumerator(b, i),
            x.fillDenominator(b, i), x.delays(b, i), x.backorderDays(b, i), x.helped(b, i)};
        out.append("base ").append(b);
        for (int value : all) {
            out.append(' ').append(value);
        }
        out.append('\n');
    }

    private static void seenLinks(StringBuilder out, DepotNetwork x) {
        out.append("links");
        for (int a = 1; a < x.siteCount(); a++) {
            for (int b = a + 1; b < x.siteCount(); b++) {
                int lead = x.setLink(a, b, 0);
                x.setLink(a, b, lead);
                out.append(' ').append(lead);
            }
        }
        out.append('\n');
    }

    /** What can be seen now and on each of the days to come. */
    static String seenFor(DepotNetwork x, int days) {
        StringBuilder out = new StringBuilder(seen(x));
        for (int d = 0; d < days; d++) {
            x.advance(1);
            out.append(seen(x));
        }
        return out.toString();
    }
}
