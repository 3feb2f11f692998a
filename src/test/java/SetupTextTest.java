/** Promises 40 to 44: setup texts. */
public final class SetupTextTest {
    private SetupTextTest() {
    }

    public static void main(String[] args) {
        bufferEdges();
        wholeSetup();
        tokens();
        notAllowed();
        outOfRange();
        tooMany();
        firstErrorCounts();
        textEndsAtItsLength();
        loadReplacesTheNetwork();
        loadStartsFromAnEmptyNetwork();
        Check.end("SetupTextTest");
    }

    /** Puts the text into the empty buffer; what is left of the last four bytes is cut off. */
    private static void write(DepotNetwork x, String text) {
        for (int k = 0; k < text.length(); k += 4) {
            int four = 0;
            for (int j = k; j < k + 4; j++) {
                four = four << 8 | (j < text.length() ? text.charAt(j) : 0);
            }
            x.appendText(four);
        }
        x.truncateText(text.length());
    }

    private static void error(int code, int position, String text) {
        DepotNetwork x = new DepotNetwork();
        write(x, text);
        Check.due(-1, "load of <" + text + ">", x::load);
        Check.due(code, "errorCode of <" + text + ">", x::errorCode);
        Check.due(position, "errorPosition of <" + text + ">", x::errorPosition);
        Check.due(1, "siteCount after <" + text + ">", x::siteCount);
        Check.due(0, "itemCount after <" + text + ">", x::itemCount);
        Check.due(4, "the buffer is empty after <" + text + ">", () -> x.appendText(0));
    }

    private static void good(int statements, String text) {
        DepotNetwork x = new DepotNetwork();
        write(x, text);
        Check.due(statements, "load of <" + text + ">", x::load);
        Check.due(0, "errorCode of <" + text + ">", x::errorCode);
        Check.due(-1, "errorPosition of <" + text + ">", x::errorPosition);
    }

    private static void bufferEdges() {
        DepotNetwork x = new DepotNetwork();
        Check.argument("truncateText(1)", () -> x.truncateText(1));
        Check.argument("truncateText(-1)", () -> x.truncateText(-1));
        Check.due(0, "truncateText(0)", () -> x.truncateText(0));
        for (int k = 1; k <= 125; k++) {
            int due = 4 * k;
            Check.due(due, "appendText", () -> x.appendText(0x20202020));
        }
        Check.state("504 bytes", () -> x.appendText(0x20202020));
        Check.argument("truncateText(501)", () -> x.truncateText(501));
        Check.due(500, "truncateText(500)", () -> x.truncateText(500));
        Check.due(497, "truncateText(497)", () -> x.truncateText(497));
        Check.state("501 bytes", () -> x.appendText(0));
        Check.due(496, "truncateText(496)", () -> x.truncateText(496));
        Check.due(500, "500 bytes again", () -> x.appendText(0x20200a3b));
        Check.due(-1, "load", x::load);
        Check.due(1, "the last byte is wrong", x::errorCode);
        Check.due(499, "at 499", x::errorPosition);
        Check.due(0, "load of an empty text", x::load);
        Check.due(0, "errorCode", x::errorCode);
        Check.due(-1, "errorPosition", x::errorPosition);
    }

    private static void wholeSetup() {
        DepotNetwork x = new DepotNetwork();
        write(x, "item 7 2 4;base 3;base 5;level 0 0 6;level 1 0 2;level 2 0 20;level 2 0 9;"
                + "link 2 1 8;share 1 0 10;reserve 2 0 20;rate 1 0 100;limit 20;");
        Check.due(12, "load", x::load);
        Check.due(3, "siteCount", x::siteCount);
        Check.due(1, "itemCount", x::itemCount);
        Check.due(6, "level 0", () -> x.level(0, 0));
        Check.due(6, "onHand 0", () -> x.onHand(0, 0));
        Check.due(2, "onHand 1", () -> x.onHand(1, 0));
        Check.due(9, "a level falls", () -> x.onHand(2, 0));
        Check.due(8, "link", () -> x.setLink(1, 2, 8));
        Check.due(20, "reserve", () -> x.setReserve(2, 0, 0));
        Check.due(20, "limit", () -> x.setLateralLimit(20));
        Check.due(100, "rate", () -> x.setRate(1, 0, 0));
        x.demand(1, 0, 0);
        Check.due(4, "the local repair time", () -> x.dueDay(0));
        Check.due(10, "share", () -> x.setShare(1, 0, 0));
        x.demand(1, 0, 0);
        Check.due(3, "the lead time of base 1", () -> x.dueDay(0));
        x.demand(2, 0, 0);
        x.advance(3);
        x.advance(1);
        x.advance(1);
        Check.due(2, "two repair places", () -> x.underWay(0, 1));
        Check.due(10, "the depot repair time", () -> x.dueDay(0));
    }

    private static void tokens() {
        good(0, "");
        good(0, " \n \n");
        good(1, "item1 1 1;");
        good(1, "\n item\n1\n1 \n1\n;\n");
        good(3, "base1;base20;link1 2 1;");
        good(1, "limit00000000000000000000000000020;");
        good(2, "base 1 ;limit 0;");
        good(6, "item 1 1 1;base 1;level 1 0 0;share 1 0 0;reserve 1 0 0;rate 1 0 0;");
        good(4, "base 1;base 1;link 1 2 3;link 1 2 4;");
        good(4, "base 1;base 1;link 1 2 3;link 2 1 4;");
    }

    private static void notAllowed() {
        error(1, 0, ";");
        error(1, 0, "5;");
        error(1, 0, "items 1 1 1;");
        error(1, 0, "ite 1 1 1;");
        error(1, 0, "iten 1 1 1;");
        error(1, 0, "atem 1 1 1;");
        error(1, 0, "itema 1 1 1;");
        error(1, 0, "itemz 1 1 1;");
        error(1, 2, "  Item 1 1 1;");
        error(1, 8, "item 1 1;");
        error(1, 10, "item 1 1 1");
        error(1, 12, "item 1 1 1  ");
        error(1, 11, "item 1 1 1 1;");
        error(1, 7, "item 1 x 1;");
        error(1, 7, "item 1 item 1;");
        error(1, 4, "base;");
        error(1, 7, "base 1;;");
        error(1, 5, "base -1;");
        error(1, 6, "base 1.5;");
        error(1, 6, "base 1\t;");
        error(1, 4, "base\r1;");
        error(1, 0, "basE 1;");
        error(1, 4, "baseE 1;");
        error(1, 7, "limit 1");
        error(1, 5, "limit");
        error(1, 0, "\u00e9");
        error(1, 0, "\u0000");
        error(1, 7, "base 1;\u00ff");
        error(1, 0, "`");
        error(1, 0, "{");
        error(1, 5, "base /;");
        error(1, 5, "base :;");
    }

    private static void outOfRange() {
        error(2, 5, "item 0 1 1;");
        error(2, 5, "item 31 1 1;");
        error(2, 7, "item 1 0 1;");
        error(2, 7, "item 1 6 1;");
        error(2, 9, "item 1 1 0;");
        error(2, 9, "item 1 1 31;");
        error(2, 5, "base 0;");
        error(2, 5, "base 21;");
        error(2, 5, "base 4294967297;");
        error(2, 5, "base 18446744073709551617;");
        error(2, 5, "base 10000000000000000000000000000000000000000;");
        error(2, 6, "limit 21;");
        error(2, 6, "level 1 0 0;");
        error(2, 8, "level 0 0 0;");
        error(2, 21, "item 1 1 1;level 0 0 21;");
        String two = "item 1 1 1;base 1;base 1;";
        error(2, 30, two + "link 0 1 1;");
        error(2, 30, two + "link 3 1 1;");
        error(2, 32, two + "link 1 1 1;");
        error(2, 32, two + "link 1 0 1;");
        error(2, 32, two + "link 1 3 1;");
        error(2, 34, two + "link 1 2 0;");
        error(2, 34, two + "link 1 2 21;");
        error(2, 31, two + "share 0 0 1;");
        error(2, 31, two + "share 3 0 1;");
        error(2, 33, two + "share 1 1 1;");
        error(2, 35, two + "share 1 0 11;");
        error(2, 33, two + "reserve 0 0 1;");
        error(2, 35, two + "reserve 1 1 1;");
        error(2, 37, two + "reserve 1 0 21;");
        error(2, 30, two + "rate 0 0 1;");
        error(2, 32, two + "rate 2 1 1;");
        error(2, 34, two + "rate 2 0 101;");
        error(2, 31, two + "level 3 0 1;");
        error(2, 33, two + "level 2 1 1;");
    }

    private static void tooMany() {
        String fourItems = "item 1 1 1;".repeat(4);
        String sevenBases = "base 1;".repeat(7);
        good(4, fourItems);
        good(7, sevenBases);
        error(3, 44, fourItems + "item 1 1 1;");
        error(3, 45, fourItems + " item");
        error(3, 49, sevenBases + "base 99;");
        good(12, fourItems + sevenBases + "link 7 6 20;");
    }

    private static void firstErrorCounts() {
        error(2, 5, "base 0 ?");
        error(2, 5, "base 99?");
        error(1, 6, "base 9?;");
        error(1, 0, "?base 0;");
        error(1, 6, "base 1base 0;");
        error(2, 12, "base 1; base0;");
    }

    /** What was cut off, or stands behind the buffer, belongs to no token. */
    private static void textEndsAtItsLength() {
        DepotNetwork x = new DepotNetwork();
        write(x, "limit 21;");
        x.truncateText(7);
        Check.due(-1, "load of <limit 2>", x::load);
        Check.due(1, "errorCode of <limit 2>", x::errorCode);
        Check.due(7, "errorPosition of <limit 2>", x::errorPosition);
        write(x, "bases");
        x.truncateText(4);
        Check.due(-1, "load of <base>", x::load);
        Check.due(1, "errorCode of <base>", x::errorCode);
        Check.due(4, "errorPosition of <base>", x::errorPosition);
        error(1, 0, "a".repeat(500));
        error(1, 0, "9".repeat(500));
        error(2, 5, "base " + "9".repeat(495));
        error(1, 500, "base " + "0".repeat(494) + "7");
        error(1, 496, " ".repeat(496) + "bass");
        error(1, 500, " ".repeat(496) + "base");
        good(1, "limit" + "0".repeat(494) + ";");
        good(0, " ".repeat(500));
    }

    private static void loadReplacesTheNetwork() {
        DepotNetwork x = new DepotNetwork();
        write(x, "item 1 1 1;base 2;base 3;level 1 0 1;link 1 2 3;limit 4;rate 1 0 100;"
                + "share 1 0 5;reserve 1 0 6;");
        x.load();
        x.run(1, 20);
        x.save(1);
        write(x, "limit 99;");
        Check.due(-1, "load with an error", x::load);
        Check.due(20, "the network stays", x::day);
        Check.due(true, "with its demands", () -> x.demands(1, 0) > 0);
        write(x, "item 2 2 2;base 9;base 9;");
        Check.due(3, "load", x::load);
        Check.due(0, "day()", x::day);
        Check.due(0, "demands", () -> x.demands(-1, -1));
        Check.due(0, "delays", () -> x.delays(-1, -1));
        Check.due(0, "backorderDays", () -> x.backorderDays(-1, -1));
        Check.due(0, "refusedDemands", x::refusedDemands);
        Check.due(0, "dueCount", x::dueCount);
        Check.due(0, "keptOrders", () -> x.keptOrders(0));
        Check.due(0, "waiting", () -> x.waiting(1, 0));
        Check.due(0, "WAITING units", () -> x.underWay(0, 4));
        Check.due(0, "level", () -> x.level(1, 0));
        Check.due(0, "onHand", () -> x.onHand(1, 0));
        Check.due(0, "link", () -> x.setLink(1, 2, 0));
        Check.due(0, "limit", () -> x.setLateralLimit(0));
        Check.due(0, "rate", () -> x.setRate(1, 0, 0));
        Check.due(0, "share", () -> x.setShare(1, 0, 0));
        Check.due(0, "reserve", () -> x.setReserve(1, 0, 0));
        Check.due(1, "fillDenominator", () -> x.fillDenominator(-1, -1));
        Check.due(0, "helped", () -> x.helped(-1, -1));
        Check.happens("saved states stay", () -> x.restore(1));
        Check.due(20, "day() of the saved state", x::day);
        Check.due(4, "limit of the saved state", () -> x.setLateralLimit(0));
    }

    /** Neither a trial of bestSite() nor an earlier network or text may leave a trace. */
    private static void loadStartsFromAnEmptyNetwork() {
        String full = "item 1 1 1;base 9;base 9;base 9;level 0 0 2;level 1 0 3;level 3 0 3;"
                + "link 1 2 3;limit 4;rate 1 0 100;rate 2 0 90;share 1 0 5;reserve 1 0 1;";
        DepotNetwork x = new DepotNetwork();
        write(x, full);
        x.load();
        for (int k = 0; k < 9; k++) {
            x.run(k, 30);
        }
        x.bestSite(0, 3, 10);
        write(x, "item 1 1 1;base 9;base 9;base 9;");
        x.load();
        isEmpty(x);
        write(x, full);
        x.load();
        for (int k = 0; k < 9; k++) {
            x.run(k, 30);
        }
        write(x, full + "limit 21;");
        x.load();
        write(x, full);
        x.load();
        write(x, "item 1 1 1;base 9;base 9;base 9;");
        x.load();
        isEmpty(x);
    }

    private static void isEmpty(DepotNetwork x) {
        int zero = x.day() + x.refusedDemands() + x.dueCount() + x.keptOrders(0) + x.underWay(0, 4)
                + x.setLateralLimit(0) + x.setLink(1, 2, 0);
        Check.due(0, "what the network holds", () -> zero);
        for (int site = 0; site <= 3; site++) {
            int s = site;
            Check.due(0, "level", () -> x.level(s, 0));
            Check.due(0, "onHand", () -> x.onHand(s, 0));
        }
        for (int base = 1; base <= 3; base++) {
            int b = base;
            Check.due(0, "waiting", () -> x.waiting(b, 0));
            Check.due(0, "demands", () -> x.demands(b, 0));
            Check.due(0, "fillNumerator", () -> x.fillNumerator(b, 0));
            Check.due(0, "delays", () -> x.delays(b, 0));
            Check.due(0, "backorderDays", () -> x.backorderDays(b, 0));
            Check.due(0, "helped", () -> x.helped(b, 0));
            Check.due(0, "rate", () -> x.setRate(b, 0, 0));
            Check.due(0, "share", () -> x.setShare(b, 0, 0));
            Check.due(0, "reserve", () -> x.setReserve(b, 0, 0));
        }
    }
}
