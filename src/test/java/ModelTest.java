import java.util.ArrayList;
import java.util.List;
import java.util.Random;

/** Random runs of calls, each answered by the class and by the model; then all they show. */
public final class ModelTest {
    private static final int RUNS = 210;
    private static final int CALLS = 300;

    // Beside plain styles: from nothing; many sites; few units; with texts; more than 200 units
    // under way; repairs for helpers whose links go.
    private static final int STYLES = 7;
    private static final int NOTHING = 0;
    private static final int MANY = 2;
    private static final int SCARCE = 3;
    private static final int TEXTS = 4;
    private static final int CROWDED = 5;
    private static final int HELPFUL = 6;

    private final Random random;
    private final DepotNetwork net = new DepotNetwork();
    private final Model model = new Model();
    private final List<String> told = new ArrayList<>();

    private ModelTest(long seed) {
        random = new Random(seed);
    }

    public static void main(String[] args) {
        for (int seed = 1; seed <= RUNS; seed++) {
            String fault = new ModelTest(seed).play(seed % STYLES);
            int number = seed;
            Check.due("", "run " + number, () -> fault);
            if (!fault.isEmpty()) {
                break;
            }
        }
        Check.end("ModelTest");
    }

    private String play(int style) {
        if (style != NOTHING) {
            build(style);
        }
        for (int call = 0; call < CALLS; call++) {
            String fault = style == TEXTS ? callWithTexts() : oneCall(style);
            if (fault.isEmpty() && (call % 7 == 0 || call > CALLS - 3)) {
                fault = compareAll();
            }
            if (!fault.isEmpty()) {
                return String.join("\n", told) + "\n" + fault;
            }
        }
        return "";
    }

    private void build(int style) {
        boolean large = style == MANY || style == CROWDED;
        int items = large ? 4 : 1 + random.nextInt(2);
        int bases = large ? 4 + random.nextInt(4) : 2 + random.nextInt(3);
        for (int i = 0; i < items; i++) {
            int a = 1 + random.nextInt(8);
            int b = 1 + random.nextInt(3);
            int c = 1 + random.nextInt(8);
            both("addItem " + a + " " + b + " " + c,
                    () -> net.addItem(a, b, c), () -> model.addItem(a, b, c));
        }
        for (int s = 0; s < bases; s++) {
            int lead = style == CROWDED ? 20 : 1 + random.nextInt(5);
            both("addBase " + lead, () -> net.addBase(lead), () -> model.addBase(lead));
        }
        both("setLateralLimit 3", () -> net.setLateralLimit(3), () -> model.setLateralLimit(3));
        for (int i = 0; i < items; i++) {
            for (int s = 0; s <= bases; s++) {
                buildCell(style, s, i);
            }
        }
        for (int a = 1; a <= bases; a++) {
            for (int b = a + 1; b <= bases; b++) {
                int one = a;
                int two = b;
                int lead = random.nextInt(5);
                both("setLink " + a + " " + b + " " + lead, () -> net.setLink(one, two, lead),
                        () -> model.setLink(one, two, lead));
            }
        }
    }

    private void buildCell(int style, int site, int item) {
        int level = style == CROWDED ? site == 0 ? 0 : 20
                : style == HELPFUL ? site % 2 * 6 : random.nextInt(style == SCARCE ? 2 : 6);
        int rate = style == HELPFUL ? 5 : random.nextInt(101);
        both("setLevel " + site + " " + item + " " + level,
                () -> net.setLevel(site, item, level), () -> model.setLevel(site, item, level));
        both("setRate " + site + " " + item + " " + rate,
                () -> net.setRate(site, item, rate), () -> model.setRate(site, item, rate));
        if (style == HELPFUL) {
            both("setShare " + site + " " + item + " 8",
                    () -> net.setShare(site, item, 8), () -> model.setShare(site, item, 8));
        }
    }

    private static Object answerOf(Check.Call call) {
        try {
            return call.answer();
        } catch (RuntimeException e) {
            return "throws." + e.getClass().getSimpleName();
        }
    }

    private String both(String what, Check.Call got, Check.Call want) {
        Object g = answerOf(got);
        Object w = answerOf(want);
        told.add(what + " -> " + g);
        return g.equals(w) ? "" : "due is " + w;
    }

    /** Mostly within the range, now and then just outside it, seldom far away. */
    private int near(int low, int high) {
        int kind = random.nextInt(40);
        if (kind == 0) {
            return low - 1;
        } else if (kind == 1) {
            return high + 1;
        } else if (kind == 2) {
            return random.nextInt();
        } else if (kind == 3) {
            return random.nextBoolean() ? low : high;
        }
        return low + random.nextInt(Math.max(1, high - low + 1));
    }

    private int aBase() {
        return near(1, model.net.sites.size() - 1);
    }

    private int aSite() {
        return near(0, model.net.sites.size() - 1);
    }

    private int anItem() {
        return near(0, model.net.items.size() - 1);
    }

    private String oneCall(int style) {
        int kind = random.nextInt(100);
        if (kind < 45) {
            int b = aBase();
            int i = anItem();
            int p = near(0, 9);
            return both("demand " + b + " " + i + " " + p,
                    () -> net.demand(b, i, p), () -> model.demand(b, i, p));
        } else if (kind < 60 && !(style == CROWDED && random.nextInt(3) > 0)) {
            int d = random.nextInt(20) == 0 ? near(1, 60) : near(1, 4);
            return both("advance " + d, () -> net.advance(d), () -> model.advance(d));
        } else if (kind < 64) {
            int seed = near(0, 1000) * 100003;
            int d = random.nextInt(4) == 0 ? near(1, 30) : near(1, 3);
            return both("run " + seed + " " + d,
                    () -> net.run(seed, d), () -> model.run(seed, d));
        } else if (kind < 66) {
            int i = anItem();
            int seed = near(0, 1000) * 100003;
            int d = near(1, 10);
            return both("bestSite " + i + " " + seed + " " + d,
                    () -> net.bestSite(i, seed, d), () -> model.bestSite(i, seed, d));
        } else if (kind < 76) {
            int s = random.nextInt(3) == 0 ? 0 : aSite();
            int i = anItem();
            boolean wide = style == SCARCE || style == CROWDED;
            int v = wide && random.nextBoolean() ? near(0, 20) : near(0, 5);
            return both("setLevel " + s + " " + i + " " + v,
                    () -> net.setLevel(s, i, v), () -> model.setLevel(s, i, v));
        } else if (kind < 88) {
            return setting(style);
        } else if (kind < 92) {
            return growth();
        }
        return slotCall();
    }

    private String setting(int style) {
        int b = aBase();
        int i = anItem();
        switch (style == HELPFUL && random.nextInt(4) > 0 ? 4 : random.nextInt(5)) {
            case 0: {
                int v = near(0, 10);
                return both("setShare " + b + " " + i + " " + v,
                        () -> net.setShare(b, i, v), () -> model.setShare(b, i, v));
            }
            case 1: {
                int v = random.nextBoolean() ? near(0, 20) : near(0, 2);
                return both("setReserve " + b + " " + i + " " + v,
                        () -> net.setReserve(b, i, v), () -> model.setReserve(b, i, v));
            }
            case 2: {
                int v = near(0, 100);
                return both("setRate " + b + " " + i + " " + v,
                        () -> net.setRate(b, i, v), () -> model.setRate(b, i, v));
            }
            case 3: {
                int v = random.nextBoolean() ? near(0, 20) : near(0, 4);
                return both("setLateralLimit " + v,
                        () -> net.setLateralLimit(v), () -> model.setLateralLimit(v));
            }
            default: {
                int o = aBase();
                boolean low = style == HELPFUL || random.nextBoolean();
                int v = low ? near(0, 3) : near(0, 20);
                return both("setLink " + b + " " + o + " " + v,
                        () -> net.setLink(b, o, v), () -> model.setLink(b, o, v));
            }
        }
    }

    private String growth() {
        if (random.nextBoolean()) {
            int v = near(1, 20);
            return both("addBase " + v, () -> net.addBase(v), () -> model.addBase(v));
        }
        int a = near(1, 30);
        int b = near(1, 5);
        int c = near(1, 30);
        return both("addItem " + a + " " + b + " " + c,
                () -> net.addItem(a, b, c), () -> model.addItem(a, b, c));
    }

    private String slotCall() {
        int slot = near(0, 1);
        if (random.nextInt(3) > 0) {
            return both("save " + slot, () -> {
                net.save(slot);
                return "";
            }, () -> {
                model.save(slot);
                return "";
            });
        }
        return both("restore " + slot, () -> {
            net.restore(slot);
            return "";
        }, () -> {
            model.restore(slot);
            return "";
        });
    }

    // ---- texts

    private String callWithTexts() {
        if (random.nextInt(3) > 0) {
            return oneCall(TEXTS);
        }
        String setup = randomSetup();
        String fault = "";
        int length = Math.min(setup.length(), 500);
        for (int k = 0; k < length && fault.isEmpty(); k += 4) {
            int four = 0;
            for (int j = k; j < k + 4; j++) {
                four = four << 8 | (j < setup.length() ? setup.charAt(j) : 'x');
            }
            int bytes = four;
            fault = both("appendText " + four,
                    () -> net.appendText(bytes), () -> model.appendText(bytes));
        }
        if (fault.isEmpty()) {
            int cut = near(0, 3) == 0 ? near(0, length) : length;
            fault = both("truncateText " + cut,
                    () -> net.truncateText(cut), () -> model.truncateText(cut));
        }
        if (fault.isEmpty()) {
            fault = both("load of <" + setup + ">", net::load, model::load);
        }
        return fault.isEmpty() ? compareAll() : fault;
    }

    private String randomSetup() {
        StringBuilder out = new StringBuilder();
        int items = random.nextInt(5) + (random.nextInt(10) == 0 ? 1 : 0);
        int bases = random.nextInt(8) + (random.nextInt(10) == 0 ? 1 : 0);
        for (int i = 0; i < items; i++) {
            statement(out, "item", number(1, 30), number(1, 5), number(1, 30));
        }
        for (int b = 0; b < bases; b++) {
            statement(out, "base", number(1, 20));
        }
        int more = random.nextInt(16);
        for (int k = 0; k < more; k++) {
            String base = number(1, Math.max(1, bases));
            String item = number(0, Math.max(0, items - 1));
            switch (random.nextInt(6)) {
                case 0 -> statement(out, "level", number(0, bases), item, number(0, 20));
                case 1 -> statement(out, "link", base, number(1, Math.max(1, bases)),
                        number(1, 20));
                case 2 -> statement(out, "share", base, item, number(0, 10));
                case 3 -> statement(out, "reserve", base, item, number(0, 20));
                case 4 -> statement(out, "rate", base, item, number(0, 100));
                default -> statement(out, "limit", number(0, 20));
            }
        }
        if (random.nextInt(3) == 0 && out.length() > 0) {
            String signs = "az;09 \nA\u0000\u00e9:/{`,";
            out.setCharAt(random.nextInt(out.length()),
                    signs.charAt(random.nextInt(signs.length())));
        }
        return out.toString();
    }

    private String number(int low, int high) {
        int kind = random.nextInt(120);
        if (kind == 0) {
            return "99999999999999999999999";
        } else if (kind == 1) {
            return "4294967297";
        } else if (kind == 2) {
            return String.valueOf(high + 1);
        } else if (kind == 3) {
            return low > 0 ? String.valueOf(low - 1) : "1000";
        }
        return "0".repeat(kind % 20 == 5 ? 12 : 0) + (low + random.nextInt(high - low + 1));
    }

    private void statement(StringBuilder out, String word, String... numbers) {
        out.append(word);
        blanks(out, 0);
        for (int k = 0; k < numbers.length; k++) {
            if (k > 0) {
                blanks(out, 1);
            }
            out.append(numbers[k]);
        }
        blanks(out, 0);
        if (random.nextInt(150) > 0) {
            out.append(';');
        }
        blanks(out, 0);
    }

    private void blanks(StringBuilder out, int least) {
        int count = least + (random.nextInt(4) == 0 ? random.nextInt(3) : 0);
        for (int k = 0; k < count; k++) {
            out.append(random.nextInt(4) == 0 ? '\n' : ' ');
        }
    }

    // ---- all that can be seen

    private String compareAll() {
        StringBuilder fault = new StringBuilder();
        fault.append(both("itemCount", net::itemCount, () -> model.net.items.size()));
        fault.append(both("siteCount", net::siteCount, () -> model.net.sites.size()));
        fault.append(both("day", net::day, () -> model.net.day));
        fault.append(both("refusedDemands", net::refusedDemands, () -> model.net.refused));
        fault.append(both("errorCode", net::errorCode, model::errorCode));
        fault.append(both("errorPosition", net::errorPosition, model::errorPosition));
        fault.append(both("dueCount", net::dueCount, () -> model.dueUnits().size()));
        for (int k = -1; k <= model.dueUnits().size(); k++) {
            fault.append(compareUnit(k));
        }
        for (int s = -2; s <= model.net.sites.size(); s++) {
            for (int i = -2; i <= model.net.items.size(); i++) {
                fault.append(compareCell(s, i)).append(compareFigures(s, i));
            }
        }
        for (int i = -1; i <= model.net.items.size(); i++) {
            int item = i;
            fault.append(both("keptOrders " + i,
                    () -> net.keptOrders(item), () -> model.keptOrders(item)));
            fault.append(both("fleet " + i, () -> net.fleet(item), () -> model.fleet(item)));
            for (int k = -1; k <= 5; k++) {
                int kind = k;
                fault.append(both("underWay " + i + " " + k,
                        () -> net.underWay(item, kind), () -> model.underWay(item, kind)));
            }
        }
        if (fault.length() == 0) {
            // What was asked without fault is not worth telling.
            told.removeIf(line -> line.startsWith("?"));
        }
        return fault.toString();
    }

    private String compareUnit(int k) {
        return both("?dueDay " + k, () -> net.dueDay(k), () -> model.due(0, k))
                + both("?dueKind " + k, () -> net.dueKind(k), () -> model.due(1, k))
                + both("?dueItem " + k, () -> net.dueItem(k), () -> model.due(2, k))
                + both("?dueSite " + k, () -> net.dueSite(k), () -> model.due(3, k))
                + both("?dueOwner " + k, () -> net.dueOwner(k), () -> model.due(4, k));
    }

    private String compareCell(int s, int i) {
        String at = " " + s + " " + i;
        return both("?level" + at, () -> net.level(s, i), () -> model.level(s, i))
                + both("?onHand" + at, () -> net.onHand(s, i), () -> model.onHand(s, i))
                + both("?waiting" + at, () -> net.waiting(s, i), () -> model.waiting(s, i))
                + both("?topPriority" + at,
                        () -> net.topPriority(s, i), () -> model.topPriority(s, i))
                + both("?dueIn" + at, () -> net.dueIn(s, i), () -> model.dueIn(s, i))
                + both("?position" + at, () -> net.position(s, i), () -> model.position(s, i))
                + both("?nextArrival" + at,
                        () -> net.nextArrival(s, i), () -> model.nextArrival(s, i));
    }

    private String compareFigures(int s, int i) {
        String at = " " + s + " " + i;
        return both("?demands" + at, () -> net.demands(s, i), () -> model.demands(s, i))
                + both("?fillNumerator" + at,
                        () -> net.fillNumerator(s, i), () -> model.fillNumerator(s, i))
                + both("?fillDenominator" + at,
                        () -> net.fillDenominator(s, i), () -> model.fillDenominator(s, i))
                + both("?delays" + at, () -> net.delays(s, i), () -> model.delays(s, i))
                + both("?backorderDays" + at,
                        () -> net.backorderDays(s, i), () -> model.backorderDays(s, i))
                + both("?helped" + at, () -> net.helped(s, i), () -> model.helped(s, i));
    }
}
