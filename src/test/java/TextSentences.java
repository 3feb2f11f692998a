/** The sentences on setup texts, and of the promises 40 to 44. */
final class TextSentences {
    private static final String TEXTS = "SETUP TEXTS";

    private TextSentences() {
    }

    static void all() {
        tokens();
        statements();
        errors();
        buffer();
        loading();
    }

    /** The text has one sign ^, which stands before the wrong token and is left out. */
    private static void error(int code, String marked) {
        int position = marked.indexOf('^');
        errorAt(code, position, marked.substring(0, position) + marked.substring(position + 1));
    }

    private static void errorAt(int code, int position, String text) {
        DepotNetwork x = new DepotNetwork();
        Nets.write(x, text);
        Check.is("-1 " + code + " " + position, "<" + text + ">", told(x));
        Check.is(1, "sites after <" + text + ">", x.siteCount());
        Check.is(0, "items after <" + text + ">", x.itemCount());
    }

    private static DepotNetwork good(int statements, String text) {
        DepotNetwork x = new DepotNetwork();
        Nets.write(x, text);
        Check.is(statements + " 0 -1", "<" + text + ">", told(x));
        return x;
    }

    private static String told(DepotNetwork x) {
        return x.load() + " " + x.errorCode() + " " + x.errorPosition();
    }

    // ---- tokens

    private static void tokens() {
        Sentences.holds(TEXTS, "A setup is an ASCII text that is collected in a text buffer of at"
                + " most 500 bytes.", () -> {
                    good(71, "limit1;".repeat(71) + "\n\n\n");
                    good(63, "base 1;".repeat(7) + "limit 1;".repeat(56) + "   ");
                    error(1, "limit1;".repeat(71) + "^ba;");
                    error(1, "limit1;".repeat(70) + "limit 1  ^");
                });
        String tokens = "Its tokens are words (maximal runs of the letters a to z), numbers"
                + " (maximal runs of the digits 0 to 9) and the symbol ;.";
        Sentences.holds(TEXTS, tokens, TextSentences::everyByteAlone);
        Sentences.holds(TEXTS, tokens, TextSentences::everyByteBetween);
        Sentences.holds(TEXTS, tokens, TextSentences::maximalRuns);
        Sentences.holds(TEXTS, "Spaces (byte 32) and line feeds (byte 10) may stand before, between"
                + " and behind tokens.", () -> {
                    good(0, " ");
                    good(0, "\n");
                    good(2, "  \n base\n\n7  ; \n\n base \n 8\n;\n \n");
                    good(1, "base 7 ;");
                    good(1, "base 7\n;");
                    good(1, "base 7; ");
                    error(1, "^ba se 7;");
                    error(1, "base 7\n^7;");
                    error(1, "base 1 ^2;");
                    error(1, "base 1\n^2;");
                });
        Sentences.holds(TEXTS, "Numbers may have any number of digits.",
                TextSentences::longNumbers);
    }

    private static void everyByteAlone() {
        for (int sign = 0; sign < 256; sign++) {
            String text = String.valueOf((char) sign);
            if (sign == 32 || sign == 10) {
                good(0, text);
            } else {
                errorAt(1, 0, text);
            }
        }
    }

    /** Between a word and a number, and behind a number. */
    private static void everyByteBetween() {
        for (int sign = 0; sign < 256; sign++) {
            char c = (char) sign;
            boolean blank = sign == 32 || sign == 10;
            if (blank || c == '0' || c == '1') {
                good(1, "base" + c + "1;");
            } else if (c >= '2' && c <= '9') {
                errorAt(2, 4, "base" + c + "1;");
            } else {
                errorAt(1, c >= 'a' && c <= 'z' ? 0 : 4, "base" + c + "1;");
            }
            if (blank) {
                good(1, "limit 5" + c + ";");
            } else if (c >= '0' && c <= '9') {
                errorAt(2, 6, "limit 5" + c + ";");
            } else {
                errorAt(1, c == ';' ? 8 : 7, "limit 5" + c + ";");
            }
        }
    }

    private static void maximalRuns() {
        good(3, "item1 2 3;base4;limit5;");
        error(1, "^baseitem 1;");
        error(1, "^bases1;");
        error(2, "base ^111;");
        error(1, "base 1^base 1;");
        error(1, "base 1;^;");
        error(1, "^;base 1;");
        error(1, "base 1^x;");
        error(1, "base 1;^1;");
    }

    private static void longNumbers() {
        DepotNetwork x = good(1, "limit " + "0".repeat(491) + "20;");
        Check.is(20, "the limit", x.setLateralLimit(0));
        error(2, "limit ^" + "0".repeat(491) + "21;");
        good(1, "base 00000000000000000000000000000000007;");
        error(2, "base ^" + "0".repeat(40) + ";");
        error(2, "base ^" + "1".repeat(400) + ";");
        error(2, "base ^4294967297;");
        error(2, "base ^4294967296;");
        error(2, "base ^2147483648;");
        error(2, "base ^18446744073709551617;");
        error(2, "base ^18446744073709551616;");
        error(2, "base ^100000000000000000001;");
        error(2, "base ^1000;");
        error(2, "base ^10000;");
        error(2, "base ^256;");
        error(2, "base ^257;");
        error(2, "base ^65537;");
        error(2, "limit ^4294967296;");
        error(2, "level ^4294967296 0 1;");
    }

    // ---- statements

    private static void statements() {
        Sentences.holds(TEXTS, "setup = { statement \";\" }", () -> {
            good(0, "");
            good(1, "limit 1;");
            good(2, "limit 1;limit 2;");
            error(1, "limit 1^");
            error(1, "limit 1;limit 2^");
            error(1, "limit 1 ^limit 2;");
        });
        Sentences.holds(TEXTS, "statement = \"item\" DEPOTTIME PLACES LOCALTIME | \"base\" LEADTIME"
                + " | \"level\" SITE ITEM LEVEL | \"link\" BASE BASE LEADTIME | \"share\" BASE ITEM"
                + " SHARE | \"reserve\" BASE ITEM RESERVE | \"rate\" BASE ITEM RATE | \"limit\""
                + " LATERALLIMIT", TextSentences::eachStatement);
        Sentences.holds(TEXTS, "The statements take effect in their order, as the methods with"
                + " similar names, on an empty network on day 0.", TextSentences::effects);
        Sentences.holds(TEXTS, "SITE, BASE and ITEM are numbers of those that exist then (a base is"
                + " not 0); the two bases of a link are different.",
                TextSentences::thoseThatExist);
        Sentences.holds(TEXTS, "The other numbers have the ranges given above.",
                TextSentences::rangesOfNumbers);
    }

    private static void eachStatement() {
        String two = "item 1 1 1;base 1;base 1;";
        String[] three = {"item", "level", "link", "share", "reserve", "rate"};
        for (String word : three) {
            String numbers = word.equals("item") ? "1 1 1" : word.equals("link") ? "1 2 1"
                    : "1 0 1";
            good(4, two + word + " " + numbers + ";");
            error(1, two + word + "^;");
            error(1, two + word + " " + numbers.substring(0, 1) + "^;");
            error(1, two + word + " " + numbers.substring(0, 3) + "^;");
            error(1, two + word + " " + numbers + " ^1;");
            error(1, two + "^" + word.substring(1) + " " + numbers + ";");
            error(1, two + "^" + word.substring(0, word.length() - 1) + " " + numbers + ";");
            error(1, two + "^" + word + "a " + numbers + ";");
            error(1, two + "^a" + word + " " + numbers + ";");
            error(1, two + word + " ^" + word + ";");
            misspelt(two, word, numbers);
        }
        for (String word : new String[] {"base", "limit"}) {
            good(4, two + word + " 3;");
            error(1, two + word + "^;");
            error(1, two + word + " 3 ^3;");
            error(1, two + "^" + word.substring(1) + " 3;");
            error(1, two + "^" + word.substring(0, word.length() - 1) + " 3;");
            error(1, two + "^" + word + "a 3;");
            misspelt(two, word, "3");
        }
        for (String no : new String[] {"none", "items", "bases", "site", "run", "save", "a", "z"}) {
            error(1, two + "^" + no + " 1 1 1;");
        }
    }

    /** Each letter in turn is another one. */
    private static void misspelt(String before, String word, String numbers) {
        for (int k = 0; k < word.length(); k++) {
            char other = word.charAt(k) == 'z' ? 'y' : (char) (word.charAt(k) + 1);
            error(1, before + "^" + word.substring(0, k) + other + word.substring(k + 1) + " "
                    + numbers + ";");
        }
    }

    private static void effects() {
        DepotNetwork x = good(19, "item 7 2 4;item 9 1 8;base 3;base 5;base 6;level 0 0 6;"
                + "level 1 0 2;level 2 1 20;level 2 1 9;link 2 1 8;link 1 2 6;link 2 3 7;"
                + "share 1 0 10;share 3 1 4;reserve 2 1 20;reserve 3 0 2;rate 2 1 100;"
                + "rate 3 0 55;limit 20;");
        DepotNetwork y = new DepotNetwork();
        y.addItem(7, 2, 4);
        y.addItem(9, 1, 8);
        Nets.addBases(y, 3, 5, 6);
        y.setLevel(0, 0, 6);
        y.setLevel(1, 0, 2);
        y.setLevel(2, 1, 9);
        y.setLink(1, 2, 6);
        y.setLink(2, 3, 7);
        y.setShare(1, 0, 10);
        y.setShare(3, 1, 4);
        y.setReserve(2, 1, 20);
        y.setReserve(3, 0, 2);
        y.setRate(2, 1, 100);
        y.setRate(3, 0, 55);
        y.setLateralLimit(20);
        Check.is(Nets.seen(y), "as the methods do", Nets.seen(x));
        for (int k = 0; k < 3; k++) {
            for (int b = 1; b <= 3; b++) {
                Nets.demands(x, 3, b, k % 2, k);
                Nets.demands(y, 3, b, k % 2, k);
            }
        }
        x.run(5, 20);
        y.run(5, 20);
        Check.is(Nets.seenFor(y, 30), "and then", Nets.seenFor(x, 30));
        DepotNetwork z = Nets.busy();
        Nets.write(z, "item 1 1 1;item 1 1 1;base 1;base 1;base 1;");
        z.load();
        DepotNetwork empty = new DepotNetwork();
        empty.addItem(1, 1, 1);
        empty.addItem(1, 1, 1);
        Nets.addBases(empty, 1, 1, 1);
        Check.is(Nets.seen(empty), "on an empty network on day 0", Nets.seen(z));
    }

    private static void thoseThatExist() {
        error(2, "level 0 ^0 0;");
        error(2, "level ^1 0 0;");
        error(2, "item 1 1 1;level ^1 0 0;");
        good(3, "item 1 1 1;level 0 0 0;base 1;");
        error(2, "item 1 1 1;level 0 ^1 0;item 1 1 1;");
        error(2, "item 1 1 1;base 1;level ^2 0 0;base 1;");
        String two = "item 1 1 1;item 1 1 1;base 1;base 1;";
        good(6, two + "level 2 1 1;level 0 0 1;");
        error(2, two + "level ^3 0 1;");
        error(2, two + "level 2 ^2 1;");
        for (String word : new String[] {"share", "reserve", "rate"}) {
            good(6, two + word + " 1 0 1;" + word + " 2 1 1;");
            error(2, two + word + " ^0 0 1;");
            error(2, two + word + " ^3 0 1;");
            error(2, two + word + " 1 ^2 1;");
            error(2, two + word + " 2 ^99 1;");
        }
        good(6, two + "link 1 2 1;link 2 1 1;");
        error(2, two + "link ^0 1 1;");
        error(2, two + "link ^3 1 1;");
        error(2, two + "link 1 ^0 1;");
        error(2, two + "link 1 ^3 1;");
        error(2, two + "link 1 ^1 1;");
        error(2, two + "link 2 ^2 1;");
        error(2, two + "link ^3 3 1;");
        error(2, two + "link ^0 0 1;");
        String most = "item 1 1 1;".repeat(4) + "base 1;".repeat(7);
        good(12, most + "rate 7 3 1;");
        error(2, most + "rate ^8 3 1;");
        error(2, most + "rate 7 ^4 1;");
    }

    private static void rangesOfNumbers() {
        range("item ", " 1 1;", 1, 30);
        range("item 1 ", " 1;", 1, 5);
        range("item 1 1 ", ";", 1, 30);
        range("base ", ";", 1, 20);
        range("limit ", ";", 0, 20);
        String two = "item 1 1 1;base 1;base 1;";
        range(two + "level 0 0 ", ";", 0, 20);
        range(two + "level 1 0 ", ";", 0, 20);
        range(two + "link 1 2 ", ";", 1, 20);
        range(two + "share 1 0 ", ";", 0, 10);
        range(two + "reserve 1 0 ", ";", 0, 20);
        range(two + "rate 1 0 ", ";", 0, 100);
    }

    private static void range(String before, String behind, int low, int high) {
        int statements = before.length() > 20 ? 4 : 1;
        good(statements, before + low + behind);
        good(statements, before + high + behind);
        error(2, before + "^" + (high + 1) + behind);
        if (low > 0) {
            error(2, before + "^" + (low - 1) + behind);
        }
    }

    // ---- errors

    private static void errors() {
        Sentences.holds(TEXTS, "Errors in a text: the parser reads the tokens from the first one on"
                + " and stops at the first token that is wrong.", TextSentences::theFirstError);
        Sentences.holds(TEXTS, "The error position is the index of its first byte, or the length of"
                + " the text if the text ends too early.", TextSentences::positions);
        String codes = "The error code is 1 if the token is not allowed there or a byte belongs to"
                + " no token, 2 if a number is out of its range, there is no such site, base or"
                + " item, or both bases of a link are the same (then it is at the second one), and"
                + " 3 for the first word of a statement that would add a 5th item or an 8th base.";
        Sentences.holds(TEXTS, codes, TextSentences::codeOne);
        Sentences.holds(TEXTS, codes, TextSentences::codeTwo);
        Sentences.holds(TEXTS, codes, TextSentences::codeThree);
    }

    private static void theFirstError() {
        error(2, "base ^0 ?;");
        error(2, "base ^99?;");
        error(1, "base ^?;base 0;");
        error(1, "^?base 0;");
        error(1, "base 1^?base 0;");
        error(2, "base ^21 21;");
        error(2, "item ^0 0 0;");
        error(2, "item 1 ^0 0;");
        error(1, "item 1 ^x 0;");
        error(2, "item ^0 x 0;");
        error(2, "level ^9 9 99;");
        error(1, "^Base 0;");
        String seven = "base 1;".repeat(7);
        error(3, seven + "^base 0;");
        error(3, seven + "^base ?");
        error(3, seven + "^base");
        error(2, seven + "limit ^21;base 1;");
        error(1, seven + "^bass 1;base 1;");
    }

    private static void positions() {
        error(1, "^b");
        error(1, "^ba");
        error(1, "^bas");
        error(1, "base^");
        error(1, "base ^");
        error(1, "base\n\n ^");
        error(1, "base 1^");
        error(1, "base 12^");
        error(1, "base 12 \n^");
        good(1, "base 12;");
        error(1, "base 12; \n ^bas");
        error(1, "base 12;base^");
        error(1, "item 1^");
        error(1, "item 1 1^");
        error(1, "item 1 1 ^");
        error(1, "item 1 1 1^");
        error(2, "\n\n  base \n ^0;");
        error(1, " ".repeat(496) + "^bass");
        error(1, " ".repeat(499) + "^;");
        error(1, " ".repeat(496) + "base^");
        error(2, " ".repeat(493) + "base ^0;");
    }

    private static void codeOne() {
        error(1, "^1 1 1;");
        error(1, "^; ");
        error(1, "base ^;");
        error(1, "base ^base;");
        error(1, "base 1 ^1;");
        error(1, "base 1 ^base 1;");
        error(1, "base ^-1;");
        error(1, "base ^+1;");
        error(1, "base 1^.5;");
        error(1, "base 1^,");
        error(1, "base^\t1;");
        error(1, "base 1;^\r\n");
        error(1, "base 1;^\u0000");
        error(1, "base 1;^\u00a0");
        error(1, "base 1;^\u00e9");
        error(1, "base^B 1;");
        error(1, "^bAse 1;");
    }

    private static void codeTwo() {
        error(2, "item 1 ^6 1;");
        error(2, "base ^21;");
        error(2, "level ^1 0 0;");
        error(2, "base 1;share 1 ^0 1;");
        error(2, "rate ^1 0 0;");
        error(2, "base 1;link 1 ^1 21;");
        error(2, "base 1;link 1 ^1");
        error(2, "base 1;base 1;link 1 2 ^21;");
    }

    private static void codeThree() {
        String four = "item 1 1 1;".repeat(4);
        String seven = "base 1;".repeat(7);
        good(4, four);
        good(7, seven);
        good(11, four + seven);
        good(12, four + seven + "limit 3;");
        error(3, four + "^item 1 1 1;");
        error(3, four + " \n^item 0;");
        error(3, four + seven + "^item 1 1 1;");
        error(3, seven + "^base 1;");
        error(3, four + seven + "\n^base 1;");
        error(1, four + "^items 1 1 1;");
        error(2, four + "level 0 ^4 1;");
    }

    // ---- promises 40 and 41

    private static void buffer() {
        Sentences.noRule("Promise 40", "---- setup texts");
        Sentences.holds("Promise 40",
                "Appends four bytes to the text buffer, the highest byte of the parameter first.",
                () -> {
                    DepotNetwork x = new DepotNetwork();
                    x.appendText(0x62617365);
                    x.appendText(0x20313b0a);
                    Check.is("1 0 -1", "base 1;", told(x));
                    x.appendText(0x626173ff);
                    Check.is("-1 1 0", "bas and byte 255", told(x));
                    x.appendText(0x80000000);
                    Check.is("-1 1 0", "byte 128 first", told(x));
                    x.appendText(0x0a0a0a80);
                    Check.is("-1 1 3", "byte 128 last", told(x));
                });
        Sentences.holds("Promise 40", "Returns the length of the text in bytes.", () -> {
            DepotNetwork x = new DepotNetwork();
            for (int k = 1; k <= 125; k++) {
                Check.is(4 * k, "appendText", x.appendText(0x20202020));
            }
            x.truncateText(3);
            Check.is(7, "behind a cut text", x.appendText(-1));
        });
        Sentences.holds("Promise 40", "Throws `IllegalStateException` if the text would be longer"
                + " than 500 bytes", TextSentences::fullBuffer);
        Sentences.holds("Promise 41", "Cuts the text to its first bytes.", () -> {
            DepotNetwork x = new DepotNetwork();
            Nets.write(x, "base 1;base 2;base 3;");
            x.truncateText(14);
            Check.is("2 0 -1", "two are left", told(x));
            Nets.write(x, "base 1;base 2;");
            x.truncateText(7);
            x.appendText(0x20202020);
            x.truncateText(8);
            Check.is("1 0 -1", "what was cut does not come back", told(x));
            Nets.write(x, "limit 21;");
            x.truncateText(7);
            Check.is("-1 1 7", "nor does a digit", told(x));
            Nets.write(x, "bases");
            x.truncateText(4);
            Check.is("-1 1 4", "nor a letter", told(x));
            Nets.write(x, "limit 2;");
            x.truncateText(7);
            Check.is("-1 1 7", "nor a semicolon", told(x));
            Nets.write(x, "base 1;?");
            x.truncateText(7);
            Check.is("1 0 -1", "nor what is wrong", told(x));
        });
        Sentences.holds("Promise 41", "- `length`: the new length, 0 to the present length",
                () -> {
                    DepotNetwork x = new DepotNetwork();
                    x.appendText(0);
                    x.appendText(0);
                    Check.is(8, "the present length", x.truncateText(8));
                    Check.is(7, "one less", x.truncateText(7));
                    Check.argument("it is 7 now", () -> x.truncateText(8));
                    Check.is(0, "0", x.truncateText(0));
                    Check.is(0, "0 of 0", x.truncateText(0));
                    Check.is(4, "appendText", x.appendText(0));
                });
        Sentences.holds("Promise 41", "Returns the new length.", () -> {
            DepotNetwork x = new DepotNetwork();
            for (int k = 0; k < 125; k++) {
                x.appendText(0);
            }
            for (int length = 500; length >= 0; length -= 50) {
                Check.is(length, "truncateText", x.truncateText(length));
            }
        });
        Sentences.holds("Promise 41", "Throws `IllegalArgumentException` if length is out of range",
                TextSentences::wrongLength);
    }

    private static void fullBuffer() {
        DepotNetwork x = new DepotNetwork();
        Nets.write(x, "base 1;".repeat(7) + "limit1;".repeat(64) + "\n  ");
        Check.state("504 bytes", () -> x.appendText(0x3b3b3b3b));
        Check.is(499, "499", x.truncateText(499));
        Check.state("503 bytes", () -> x.appendText(0x3b3b3b3b));
        x.truncateText(497);
        Check.state("501 bytes", () -> x.appendText(0x3b3b3b3b));
        Check.is(497, "the length stays", x.truncateText(497));
        Check.is(71, "and so does the text", x.load());
        Nets.write(x, " ".repeat(496));
        Check.is(500, "500 bytes", x.appendText(0x20202020));
        Check.state("504 bytes", () -> x.appendText(0x20202020));
        Check.is(0, "load", x.load());
        Check.is(4, "there is room again", x.appendText(0x20202020));
    }

    private static void wrongLength() {
        DepotNetwork x = new DepotNetwork();
        Check.argument("1 of 0", () -> x.truncateText(1));
        Check.argument("-1 of 0", () -> x.truncateText(-1));
        Nets.write(x, "limit 7;");
        for (int no : new int[] {9, -1, 500, Integer.MIN_VALUE, Integer.MAX_VALUE}) {
            Check.argument(no + " of 8", () -> x.truncateText(no));
        }
        Check.is(1, "the text stays", x.load());
        for (int k = 0; k < 125; k++) {
            x.appendText(0);
        }
        Check.argument("501 of 500", () -> x.truncateText(501));
    }

    // ---- promises 42 to 44

    private static void loading() {
        Sentences.holds("Promise 42", "Reads the text as a setup, which replaces the network.",
                TextSentences::replaces);
        Sentences.holds("Promise 42",
                "The text buffer is empty afterwards, also if there is an error.", () -> {
                    DepotNetwork x = new DepotNetwork();
                    Nets.write(x, "base 1;");
                    x.load();
                    Check.argument("empty", () -> x.truncateText(1));
                    Check.is(0, "an empty text", x.load());
                    Nets.write(x, "base 1;base 21;");
                    x.load();
                    Check.argument("empty after an error", () -> x.truncateText(1));
                    Check.is(4, "appendText", x.appendText(0x20202020));
                    Check.is(0, "load", x.load());
                });
        Sentences.holds("Promise 42", "Saved states stay.", TextSentences::savedStatesStay);
        Sentences.holds("Promise 42", "Returns the number of statements; NONE if the text has an"
                + " error (the network stays).", TextSentences::loadAnswers);
        Sentences.holds("Promise 43", "Returns the error code of the latest load(); 0 if its text"
                + " had no error, or if there was no such call.", () -> latest(0, 0, 1, 2, 3));
        Sentences.holds("Promise 44", "Returns the error position of the latest load(); NONE if its"
                + " text had no error, or if there was no such call.",
                () -> latest(1, -1, 9, 7, 49));
    }

    private static void replaces() {
        for (int k = 0; k < 2; k++) {
            DepotNetwork x = Nets.busy();
            if (k == 1) {
                x.bestSite(0, 3, 10);
            }
            Nets.write(x, "item 2 2 2;base 9;base 8;base 7;base 6;");
            Check.is(5, "load", x.load());
            DepotNetwork y = new DepotNetwork();
            y.addItem(2, 2, 2);
            Nets.addBases(y, 9, 8, 7, 6);
            Check.is(Nets.seen(y), "nothing of the old one is left", Nets.seen(x));
            Check.is(1, "a second item", x.addItem(1, 1, 1));
            for (int b = 1; b <= 4; b++) {
                Check.is(0, "no rate", x.setRate(b, 1, 0));
                Check.is(0, "no level", x.level(b, 1));
            }
            Check.is(0, "an empty text", x.load());
            Check.is(1, "the depot alone", x.siteCount());
            Check.is(0, "without items", x.itemCount());
        }
        replacesAgainAndAgain();
        DepotNetwork z = new DepotNetwork();
        for (int i = 0; i < 4; i++) {
            z.addItem(1, 1, 1);
        }
        z.addBase(20);
        Nets.demands(z, 100, 1, 0, 0);
        z.setRate(1, 0, 100);
        z.run(1, 3);
        Check.is(3, "refused", z.refusedDemands());
        Nets.write(z, "item 1 1 1;base 20;");
        z.load();
        Check.is(0, "none refused in the new one", z.refusedDemands());
        Check.is(false, "nor is this one", z.demand(1, 0, 0));
    }

    /** Neither an earlier network nor a trial leaves a unit behind. */
    private static void replacesAgainAndAgain() {
        String stocked = "item 1 1 1;item 1 1 1;base 2;base 2;level 0 0 3;level 1 0 4;level 2 1 5;"
                + "link 1 2 3;share 1 0 4;reserve 1 0 5;rate 1 0 6;limit 7;";
        String plain = "item 1 1 1;item 1 1 1;base 2;base 2;";
        DepotNetwork empty = new DepotNetwork();
        Nets.write(empty, plain);
        empty.load();
        DepotNetwork x = new DepotNetwork();
        for (int k = 0; k < 6; k++) {
            Nets.write(x, stocked);
            Check.is(12, "a stocked one", x.load());
            x.demand(1, 0, 0);
            x.demand(1, 1, 0);
            x.advance(3);
            if (k % 2 == 1) {
                x.bestSite(0, 1, 10);
            }
            String before = Nets.seen(x);
            if (k % 3 == 1) {
                Nets.write(x, "level 0 0 1;");
                Check.is(-1, "a wrong one", x.load());
                Check.is(before, "the network stays", Nets.seen(x));
            }
            Nets.write(x, plain);
            Check.is(4, "a plain one", x.load());
            Check.is(Nets.seen(empty), "no unit is left", Nets.seen(x));
        }
    }

    private static void savedStatesStay() {
        DepotNetwork x = Nets.busy();
        x.save(0);
        x.advance(5);
        x.save(1);
        Nets.write(x, "base 1;");
        x.load();
        Nets.write(x, "base 0;");
        x.load();
        x.load();
        DepotNetwork y = Nets.busy();
        x.restore(0);
        Check.is(Nets.seenFor(y, 5), "slot 0", Nets.seenFor(x, 5));
        x.restore(1);
        Check.is(Nets.seenFor(y, 30), "slot 1", Nets.seenFor(x, 30));
    }

    private static void loadAnswers() {
        DepotNetwork x = Nets.busy();
        DepotNetwork y = Nets.busy();
        for (String wrong : new String[] {"?", "base 1;base 1;item 1 1 1;limit 21;", "base",
            "base 1;".repeat(8)}) {
            Nets.write(x, wrong);
            Check.is(-1, "<" + wrong + ">", x.load());
            Check.is(Nets.seen(y), "the network stays", Nets.seen(x));
        }
        x.run(4, 9);
        y.run(4, 9);
        Check.is(Nets.seenFor(y, 30), "also on the days to come", Nets.seenFor(x, 30));
        Check.is(0, "no statement", x.load());
        Nets.write(x, "limit 1;".repeat(62));
        Check.is(62, "62 statements", x.load());
    }

    /** Asks for code or position before any load, and after texts with each code and none. */
    private static void latest(int what, int none, int one, int two, int three) {
        DepotNetwork x = new DepotNetwork();
        Check.is(none, "no such call", asked(x, what));
        x.appendText(0x3b3b3b3b);
        Check.is(none, "still no such call", asked(x, what));
        x.truncateText(0);
        String[] texts = {"limit 1; ;", " limit 99;", "base 1;".repeat(7) + "base 1;", ""};
        int[] due = {one, two, three, none};
        for (int k = 0; k < texts.length; k++) {
            Nets.write(x, texts[k]);
            x.load();
            Check.is(due[k], "<" + texts[k] + ">", asked(x, what));
            x.addItem(1, 1, 1);
            x.save(0);
            x.restore(0);
            x.appendText(0);
            x.truncateText(0);
            Check.is(due[k], "and after other calls", asked(x, what));
        }
    }

    private static int asked(DepotNetwork x, int what) {
        return what == 0 ? x.errorCode() : x.errorPosition();
    }
}
