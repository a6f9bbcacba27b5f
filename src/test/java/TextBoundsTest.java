/** Part 1 of the terms and promises 2 to 5: sentence by sentence, the last that is taken and the first that is refused. */
public final class TextBoundsTest {
    private static final String DIGITS = "0123456789";
    private static final String LETTERS = "mgspwd";
    private static final String ATOMS = DIGITS + LETTERS + "[";
    private static final String UNITS = ATOMS + "(!";
    private static final String BLANKS = "                    ";

    private TextBoundsTest() {
    }

    public static void main(String[] args) {
        feedUpTo240();
        feedBytes();
        endOfTape();
        noSuchSort();
        oneSetOfRules();
        twoToFourKingdoms();
        oneToEightFields();
        clausesInAnyOrder();
        itemsOnceInAClause();
        numbersOfItems();
        itemsWithout();
        fieldsOfKingdomsNotTold();
        realmSigns();
        fourLaws();
        clausesOfLaws();
        numbersOfLaws();
        lawSigns();
        sixWithinOneAnother();
        withinAMillion();
        cutTowardsZero();
        firstClauseThatHolds();
        fourCampaigns();
        oneToSixteenSteps();
        digitsOfSteps();
        campaignSigns();
        blanksBetweenSigns();
        theFirstFaultCounts();
        whatIsGoneWithARealm();
        nothingOfAnotherText();
        Check.end();
    }

    private static void due(String call, long got, long want) {
        Check.due(call, got, want);
    }

    private static void due(String call, boolean got, boolean want) {
        Check.due(call, got, want);
    }

    private static void faultIs(int sort, String text, int want) {
        Check.faultIs(sort, text, want);
    }

    private static void fits(int sort, String text) {
        Check.faultIs(sort, text, -1);
    }

    private static String times(String text, int n, String between) {
        return String.join(between, java.util.Collections.nCopies(n, text));
    }

    /** Of all bytes, those (and the blank) alone let a text go on that begins so. */
    private static void goesOn(int sort, String begin, String with) {
        for (int sign = 1; sign <= 255; sign++) {
            String text = begin + (char) sign;
            int fault = Check.fault(new LosersBooks(), sort, text);
            boolean may = sign == ' ' || with.indexOf(sign) >= 0;
            due("fault(" + sort + ") of '" + text + "' (" + sign + ") at its last", fault == begin.length(), !may);
            due("fault(" + sort + ") of '" + text + "' ahead of its last", fault >= 0 && fault < begin.length(), false);
        }
    }

    // ---- the tape ----

    private static LosersBooks taped(int n) {
        LosersBooks x = new LosersBooks();
        for (int left = n; left > 0; left -= 20) {
            Check.feed(x, BLANKS.substring(0, Math.min(20, left)));
        }
        due("bytes of the tape", x.count(4), n);
        return x;
    }

    private static void feedUpTo240() {
        Check.of("feed: Twenty bytes more come: how many it has. NONE: more than 240");
        due("20 bytes to none", taped(0).feed(-1, -1, -1, -1, -1), 20);
        due("20 bytes to 219", taped(219).feed(-1, -1, -1, -1, -1), 239);
        due("20 bytes to 220", taped(220).feed(-1, -1, -1, -1, -1), 240);
        due("20 bytes to 221", taped(221).feed(-1, -1, -1, -1, -1), -1);
        due("one byte to 239", taped(239).feed(0, 0, 1, 0, 0), 240);
        due("two bytes to 239", taped(239).feed(0, 0, 257, 0, 0), -1);
        due("one byte to 240", taped(240).feed(0, 0, 1, 0, 0), -1);
        due("no byte to 240", taped(240).feed(0, 0, 0, 0, 0), 240);
        LosersBooks x = taped(221);
        x.feed(-1, -1, -1, -1, -1);
        due("nothing of what is refused comes", x.count(4), 221);
        due("all blanks still", x.fault(0), 221);
        due("there is room for 19 still", x.feed(-1, -1, -1, -1, 0xffffff00), 240);
    }

    private static void feedBytes() {
        Check.of("feed: of each number the highest first; bytes of 0 are left out");
        LosersBooks x = new LosersBooks();
        due("no byte", x.feed(0, 0, 0, 0, 0), 0);
        due("k;k;f and nothing else", x.feed(0x00006b00, 0x3b000000, 0x0000006b, 0x003b0066, 0), 5);
        due("it is a realm", x.text(0), 2);
        due("the highest byte of all", x.feed(0x80000000, 0, 0, 0, 0), 1);
        due("the lowest byte of all", x.feed(0, 0, 0, 0, 1), 2);
        due("255", x.feed(0, 0xff000000, 0, 0, 0), 3);
        x = new LosersBooks();
        due("twenty bytes in their order", x.feed(0x6b6d3162, 0x3273333b, 0x6b3b6661, 0x3062316e, 0x303b6b3b), 20);
        x.end(19);
        due("km1b2s3;k;fa0b1n0;k", x.text(0), 3);
        due("its might", x.kingdom(0, 0), 1);
        due("its style", x.kingdom(0, 2), 3);
    }

    private static void endOfTape() {
        Check.of("end: The TAPE has its first n bytes alone. False: n");
        for (int bytes : new int[] {0, 1, 240}) {
            due("end(-1) of " + bytes, taped(bytes).end(-1), false);
            due("end(0) of " + bytes, taped(bytes).end(0), true);
            due("end(all) of " + bytes, taped(bytes).end(bytes), true);
            due("end(one more) of " + bytes, taped(bytes).end(bytes + 1), false);
            due("end(greatest) of " + bytes, taped(bytes).end(Integer.MAX_VALUE), false);
            due("end(least) of " + bytes, taped(bytes).end(Integer.MIN_VALUE), false);
        }
        LosersBooks x = new LosersBooks();
        Check.feed(x, "k;k;f;k");
        x.end(8);
        x.end(-1);
        due("what is refused leaves the tape", x.count(4), 7);
        x.end(7);
        due("all of it", x.count(4), 7);
        x.end(5);
        due("five bytes", x.count(4), 5);
        due("end(6) behind it", x.end(6), false);
        due("the first five", x.text(0), 2);
        Check.of("end: what stood behind the first n bytes is none of the TAPE");
        String[] texts = {"k;k;f;  k;k;f", "y:m=1?2 ;y:3", "h1;  a2;t3;y"};
        for (int sort = 0; sort < 3; sort++) {
            for (int n = 0; n <= texts[sort].length(); n++) {
                LosersBooks cut = new LosersBooks();
                Check.feed(cut, texts[sort]);
                cut.end(n);
                int want = Check.fault(new LosersBooks(), sort, texts[sort].substring(0, n));
                due("fault(" + sort + ") of the first " + n + " of '" + texts[sort] + "'", cut.fault(sort), want);
                due("its end is the length", want == -1 || want == n, true);
            }
        }
        x = new LosersBooks();
        Check.feed(x, "k;k;fn12");
        x.end(7);
        due("bytes come behind what is left", Check.feed(x, "9"), 8);
        due("k;k;fn19", x.text(0), 2);
        due("how many fell", x.field(0, 3), 19);
    }

    private static void noSuchSort() {
        Check.of("fault, text: no such sort");
        for (int sort : new int[] {-1, 3, -2, Integer.MIN_VALUE, Integer.MAX_VALUE}) {
            for (String text : new String[] {"k;k;f", "y:1", "y"}) {
                LosersBooks x = new LosersBooks();
                due("fault(" + sort + ")", Check.fault(x, sort, text), -2);
                due("text(" + sort + ")", x.text(sort), -1);
                due("the tape stays", x.count(4), text.length());
            }
        }
        Check.of("fault: as a REALM (0), a LAW (1), a CAMPAIGN (2). NONE: none");
        String[] texts = {"k;k;f", "y:1", "y;h1"};
        int[][] want = {{-1, 0, 0}, {0, -1, 1}, {0, 1, -1}};
        for (int of = 0; of < 3; of++) {
            for (int sort = 0; sort < 3; sort++) {
                due("fault(" + sort + ") of " + texts[of], Check.fault(new LosersBooks(), sort, texts[of]), want[of][sort]);
            }
        }
    }

    // ---- realms ----

    private static void oneSetOfRules() {
        Check.of("s (its RULES; one at most); FAULT: a second s at it");
        fits(0, "k;k;f");
        fits(0, "s;k;k;f");
        faultIs(0, "s;s;k;k;f", 2);
        faultIs(0, "k;k;f;s;s", 8);
        faultIs(0, "sw1;k;k;f ; sc1", 12);
    }

    private static void twoToFourKingdoms() {
        Check.of("k (a KINGDOM; 2 .. 4); FAULT: with fewer than two the length, a fifth k at it");
        faultIs(0, "f", 1);
        faultIs(0, "k;f", 3);
        faultIs(0, "s;k;f;f ", 8);
        for (int n = 2; n <= 4; n++) {
            LosersBooks x = new LosersBooks();
            due(n + " kingdoms", Check.text(x, 0, times("k", n, ";") + ";f"), n);
            due("count(0)", x.count(0), n);
            due("the last of them", x.kingdom(n - 1, 0), 8);
        }
        faultIs(0, times("k", 5, ";") + ";f", 8);
        faultIs(0, "f;k;k;s;k;k;k", 12);
    }

    private static void oneToEightFields() {
        Check.of("f (a FIELD; 1 .. 8); FAULT: without a FIELD the length, a ninth f at it");
        faultIs(0, "k;k", 3);
        faultIs(0, "k;k;k;k;s", 9);
        for (int n = 1; n <= 8; n++) {
            LosersBooks x = new LosersBooks();
            due(n + " fields", Check.text(x, 0, "k;k;" + times("f", n, ";")), 2);
            due("count(1)", x.count(1), n);
            due("the last of them", x.field(n - 1, 3), 7);
        }
        faultIs(0, "k;k;" + times("f", 9, ";"), 20);
        faultIs(0, times("f", 8, ";") + ";k;f;k", 18);
    }

    private static void clausesInAnyOrder() {
        Check.of("CLAUSES with ; between, in any order");
        String[] orders = {"sc3;km1;km2;fn4;fn5", "fn4;fn5;km1;km2;sc3", "km1;fn4;sc3;fn5;km2", "fn4;km1;fn5;km2;sc3"};
        for (String order : orders) {
            LosersBooks x = Check.realm(order);
            due("coins of " + order, x.count(7), 3);
            due("kingdoms of " + order, x.kingdom(0, 0) * 10 + x.kingdom(1, 0), 12);
            due("fields of " + order, x.field(0, 3) * 10 + x.field(1, 3), 45);
        }
        Check.of("FAULT: the length, if it ends too early");
        faultIs(0, "", 0);
        faultIs(0, " ", 1);
        faultIs(0, "k", 1);
        faultIs(0, "k;", 2);
        faultIs(0, "k;k;f;", 6);
        faultIs(0, "k;k;f; ", 7);
        faultIs(0, "k;k;fn", 6);
        faultIs(0, "k;k;fn  ", 8);
        faultIs(0, BLANKS.repeat(12), 240);
        String full = "k;k;f" + BLANKS.repeat(12).substring(5);
        fits(0, full);
        faultIs(0, full.substring(0, 239) + ";", 240);
        faultIs(0, full.substring(0, 239) + "x", 239);
    }

    private static void itemsOnceInAClause() {
        Check.of("ITEMS, none or more: a letter, each once at most in a CLAUSE; FAULT: a letter that was there at it");
        fits(0, "sc2w1;kb1s2m3;ks1;fn1g2b1a0;fg1");
        fits(0, "km1;km1;fg1;fg1");
        for (String letter : new String[] {"w", "c"}) {
            faultIs(0, "s" + letter + "1" + letter + "1;k;k;f", 3);
        }
        for (String letter : new String[] {"m", "b", "s"}) {
            faultIs(0, "k" + letter + "1" + letter + "1;k;f", 3);
        }
        for (String letter : new String[] {"a", "b", "g", "n"}) {
            faultIs(0, "f" + letter + "1" + letter + "1;k;k", 3);
        }
        faultIs(0, "sw1c1w1", 5);
        faultIs(0, "km1b1s1m", 7);
        faultIs(0, "fa0b1g1n1a", 9);
        faultIs(0, "fa0b1g1n1 n1", 10);
    }

    private static void numbersOfItems() {
        Check.of("w how much MIGHT a rout costs (0 .. 9)");
        number("s", "w", 9);
        Check.of("c COINS (0 .. 99)");
        number("s", "c", 99);
        Check.of("m MIGHT (0 .. 30)");
        number("k", "m", 30);
        Check.of("b BIAS (0 .. 9)");
        number("k", "b", 9);
        Check.of("s STYLE (0 .. 9)");
        number("k", "s", 9);
        Check.of("a, b who meets there (0 .. 3 each)");
        number("f", "a", 3);
        number("f", "b", 3);
        Check.of("g GROUND of the first (0 .. 9)");
        number("f", "g", 9);
        Check.of("n how many FELL in truth (0 .. 20)");
        number("f", "n", 20);
    }

    /** A number out of bounds is wrong at its last digit, a third digit itself, whatever stands ahead of it. */
    private static void number(String clause, String letter, int most) {
        for (int value = 0; value <= 99; value++) {
            String two = (value < 10 ? "0" : "") + value;
            itemIs(clause, letter, two, value, value <= most);
            if (value < 10) {
                itemIs(clause, letter, "" + value, value, value <= most);
            }
            faultIs(0, clause + letter + two + "0;k;k;f", 4);
            faultIs(0, clause + letter + two + "9", 4);
        }
        faultIs(0, clause + letter, 2);
        faultIs(0, clause + letter + ";k", 2);
        faultIs(0, clause + letter + "x", 2);
        faultIs(0, clause + letter + "-1", 2);
    }

    private static void itemIs(String clause, String letter, String digits, int value, boolean may) {
        String item = clause + letter + digits;
        boolean meetsItself = item.matches("fa0?1") || item.matches("fb0?0");
        String whole = item + (meetsItself ? letter.equals("a") ? "b0" : "a1" : "") + (clause.equals("k") ? "" : ";k")
            + ";km20;k;k;f";
        if (!may) {
            faultIs(0, whole, 1 + digits.length());
            return;
        }
        LosersBooks x = Check.realm(whole);
        due("what " + whole + " tells", told(x, clause + letter), value);
    }

    private static int told(LosersBooks x, String item) {
        switch (item) {
            case "sw":
                x.year();
                int left = x.kingdom(0, 0);
                return 8 - left == 8 ? lostByRout(x) : 8 - left;
            case "sc":
                return x.count(7);
            case "km":
                return x.kingdom(0, 0);
            case "kb":
                return x.kingdom(0, 1);
            case "ks":
                return x.kingdom(0, 2);
            case "fa":
                return x.field(0, 0);
            case "fb":
                return x.field(0, 1);
            case "fg":
                return x.field(0, 2);
            default:
                return x.field(0, 3);
        }
    }

    /** Kingdom 0 has lost all its 8: how much 1 of might 20 loses, when it is beaten by it. */
    private static int lostByRout(LosersBooks x) {
        Check.text(x, 1, "y:60-m");
        x.law(x.count(2) - 1);
        x.year();
        return 20 - x.kingdom(1, 0);
    }

    private static void itemsWithout() {
        Check.of("w .. 1 without, c .. 20; m .. 8, b .. 2, s .. 3; a, b .. 0, 1, g .. 0, n .. 7");
        for (String rules : new String[] {"", "s;"}) {
            LosersBooks x = Check.realm(rules + "k;km9;f");
            due("coins", x.count(7), 20);
            due("might", x.kingdom(0, 0), 8);
            due("bias", x.kingdom(0, 1), 2);
            due("style", x.kingdom(0, 2), 3);
            due("the first", x.field(0, 0), 0);
            due("the second", x.field(0, 1), 1);
            due("ground", x.field(0, 2), 0);
            due("how many fell", x.field(0, 3), 7);
            x.year();
            due("a rout costs one", x.kingdom(0, 0), 7);
        }
        LosersBooks x = Check.realm("sc5;k;km9;f");
        x.year();
        due("a rout costs one, with coins told", x.kingdom(0, 0), 7);
        due("coins without, a rout told", Check.realm("sw5;k;k;f").count(7), 20);
        Check.of("an ITEM of one CLAUSE is none of the next");
        x = Check.realm("km1b1s1;k;fa1b0g1n1;f");
        due("might", x.kingdom(1, 0) * 100 + x.kingdom(1, 1) * 10 + x.kingdom(1, 2), 823);
        due("field", x.field(1, 0) * 1000 + x.field(1, 1) * 100 + x.field(1, 2) * 10 + x.field(1, 3), 107);
    }

    private static void fieldsOfKingdomsNotTold() {
        Check.of("FAULT: the length with a FIELD of a KINGDOM that is not told, of one twice");
        for (int kingdoms = 2; kingdoms <= 4; kingdoms++) {
            String ahead = times("k", kingdoms, ";");
            for (int a = 0; a <= 3; a++) {
                for (int b = 0; b <= 3; b++) {
                    String field = "fa" + a + "b" + b;
                    boolean may = a < kingdoms && b < kingdoms && a != b;
                    for (String text : new String[] {ahead + ";" + field, field + ";" + ahead, ahead + ";f;" + field + ";f"}) {
                        faultIs(0, text, may ? -1 : text.length());
                    }
                }
            }
        }
        faultIs(0, "k;k;fa1", 7);
        faultIs(0, "k;k;fb0", 7);
        faultIs(0, "k;k;fa2 ", 8);
        faultIs(0, "fb3;k;k;k", 9);
        faultIs(0, "k;k;fa2;fx", 9);
    }

    private static void realmSigns() {
        Check.of("FAULT: the first byte at which no such TEXT (a REALM) can go on");
        goesOn(0, "", "skf");
        goesOn(0, "s", "wc;");
        goesOn(0, "sw", DIGITS);
        goesOn(0, "sw0", DIGITS + "c;");
        goesOn(0, "sw1", "c;");
        goesOn(0, "sw09", "c;");
        goesOn(0, "sc", DIGITS);
        goesOn(0, "sc9", DIGITS + "w;");
        goesOn(0, "sc99", "w;");
        goesOn(0, "sc1w0", DIGITS + ";");
        goesOn(0, "s;", "kf");
        goesOn(0, "k", "mbs;");
        goesOn(0, "km", DIGITS);
        goesOn(0, "km2", DIGITS + "bs;");
        goesOn(0, "km3", "0bs;");
        goesOn(0, "km4", "bs;");
        goesOn(0, "km30", "bs;");
        goesOn(0, "kb", DIGITS);
        goesOn(0, "kb1", "ms;");
        goesOn(0, "ks", DIGITS);
        goesOn(0, "ks1", "mb;");
        goesOn(0, "km1b1", "s;");
        goesOn(0, "km1b1s1", ";");
        goesOn(0, "f", "abgn;");
        goesOn(0, "fa", "0123");
        goesOn(0, "fa0", "0123bgn;");
        goesOn(0, "fa1", "bgn;");
        goesOn(0, "fb", "0123");
        goesOn(0, "fb3", "agn;");
        goesOn(0, "fg", DIGITS);
        goesOn(0, "fg9", "abn;");
        goesOn(0, "fn", DIGITS);
        goesOn(0, "fn1", DIGITS + "abg;");
        goesOn(0, "fn2", "0abg;");
        goesOn(0, "fn3", "abg;");
        goesOn(0, "fn1g1b1", "a;");
        goesOn(0, "k;", "skf");
        goesOn(0, "k;k;k;k;", "sf");
        goesOn(0, "f;f;f;f;f;f;f;f;", "sk");
        goesOn(0, "k;k;k;k;f;f;f;f;f;f;f;f;", "s");
        goesOn(0, "k;k;f", "abgn;");
    }

    // ---- laws ----

    private static void fourLaws() {
        Check.of("LAWS (4 at most); text: its number. NONE: there are four");
        LosersBooks x = Check.realm("k;k;f");
        for (int i = 0; i < 4; i++) {
            due("count(2)", x.count(2), i);
            due("law " + i, Check.text(x, 1, "y:1" + i), i);
            due("the tape is empty", x.count(4), 0);
        }
        due("a fifth", Check.text(x, 1, "y:55"), -1);
        due("it has no fault", x.fault(1), -1);
        due("its tape stays", x.count(4), 4);
        due("count(2)", x.count(2), 4);
        for (int i = 0; i < 4; i++) {
            x.law(i);
            due("force by " + i, x.force(0, 0), 10 + i);
        }
        Check.of("text: a REALM has no number of at most four");
        for (int i = 0; i < 6; i++) {
            due("another realm", Check.text(x, 0, "k;k;k;f"), 3);
        }
    }

    private static void clausesOfLaws() {
        Check.of("LAWS are TEXTS: CLAUSES with ; between, one at least");
        faultIs(1, "", 0);
        faultIs(1, "  ", 2);
        fits(1, "y:1");
        fits(1, "y:1;y:2");
        faultIs(1, "y:1;", 4);
        faultIs(1, "y:1; ", 5);
        faultIs(1, ";y:1", 0);
        faultIs(1, "y:1;;y:2", 4);
        fits(1, times("y:1", 60, ";"));
        faultIs(1, times("y:1", 60, ";") + ";", 240);
        Check.of("y, : , perhaps CONDITION ?, then SUM");
        faultIs(1, "y", 1);
        faultIs(1, "y:", 2);
        faultIs(1, "y:?1", 2);
        faultIs(1, "y:m=1", 5);
        faultIs(1, "y:m=1;y:1", 5);
        faultIs(1, "y:m=1?", 6);
        faultIs(1, "y:m=1?;", 6);
        fits(1, "y:m=1?1");
        faultIs(1, "y:m?1", 3);
        faultIs(1, "y:m=1?1=1", 7);
        faultIs(1, "y:m=1?1?1", 7);
        faultIs(1, "y:m=1?(1)", 6);
        faultIs(1, "y:m=1?!1", 6);
        Check.of("(A CLAUSE that goes on with ! or ( behind its : has a CONDITION.)");
        faultIs(1, "y:!m", 4);
        faultIs(1, "y:(m)", 4);
        faultIs(1, "y:(m+1)*2", 6);
        faultIs(1, "y:(m=1)", 7);
        faultIs(1, "y:(m=1)*2", 7);
        faultIs(1, "y:(m=1)<2?1", 7);
        fits(1, "y:(m=1)?2");
        fits(1, "y:!m=1?2");
        Check.of("UNIT: SUM, one of = < >, SUM");
        faultIs(1, "y:m=1=1?1", 5);
        faultIs(1, "y:m<=1?1", 4);
        faultIs(1, "y:m=1&s?1", 7);
        faultIs(1, "y:m=1|?1", 6);
        faultIs(1, "y:m=?1", 4);
        fits(1, "y:m+1*2<[s]-3/p?1");
    }

    private static void numbersOfLaws() {
        Check.of("ATOM: a number (1 to 4 digits); FAULT: a fifth digit in a LAW itself, whatever stands ahead of it");
        fits(1, "y:0");
        fits(1, "y:10");
        fits(1, "y:100");
        fits(1, "y:9999");
        fits(1, "y:0000");
        faultIs(1, "y:10000", 6);
        faultIs(1, "y:00001", 6);
        faultIs(1, "y:123456", 6);
        faultIs(1, "y:m=12345?1", 8);
        faultIs(1, "y:[12345]", 7);
        forceBy("y:0012", 12);
        forceBy("y:9999-9959", 40);
        forceBy("y:9999/9998", 1);
    }

    private static void forceBy(String law, int want) {
        LosersBooks x = Check.ruled("k;k;f", law);
        due("force by " + law, x.force(0, 0), want);
    }

    private static void lawSigns() {
        Check.of("FAULT: the first byte at which no such TEXT (a LAW) can go on");
        String joins = "+-*/";
        goesOn(1, "", "y");
        goesOn(1, "y", ":");
        goesOn(1, "y:", UNITS);
        goesOn(1, "y:m", joins + "=<>;");
        goesOn(1, "y:1", DIGITS + joins + "=<>;");
        goesOn(1, "y:1234", joins + "=<>;");
        goesOn(1, "y:m+", ATOMS);
        goesOn(1, "y:m-", ATOMS);
        goesOn(1, "y:m*", ATOMS);
        goesOn(1, "y:m/", ATOMS);
        goesOn(1, "y:m=", ATOMS);
        goesOn(1, "y:m<", ATOMS);
        goesOn(1, "y:m>", ATOMS);
        goesOn(1, "y:m=m", joins + "&|?");
        goesOn(1, "y:m=m?", ATOMS);
        goesOn(1, "y:m=m?m", joins + ";");
        goesOn(1, "y:m=m&", UNITS);
        goesOn(1, "y:m=m|", UNITS);
        goesOn(1, "y:m=m&m", joins + "=<>");
        goesOn(1, "y:!", UNITS);
        goesOn(1, "y:!m", joins + "=<>");
        goesOn(1, "y:!m=m", joins + "&|?");
        goesOn(1, "y:(", UNITS);
        goesOn(1, "y:(m", joins + "=<>");
        goesOn(1, "y:(m=m", joins + "&|)");
        goesOn(1, "y:(m=m)", "&|?");
        goesOn(1, "y:((m=m)", "&|)");
        goesOn(1, "y:[", ATOMS);
        goesOn(1, "y:[m", joins + "]");
        goesOn(1, "y:[m]", joins + "=<>;");
        goesOn(1, "y:([m]", joins + "=<>");
        goesOn(1, "y:m;", "y");
    }

    /** Six may stand wherever a sum or a condition may begin, and what was closed ahead of it does not count. */
    private static void seventhAnywhere() {
        String[] sums = {"y:", "y:m+", "y:m*", "y:m=", "y:m<", "y:m>", "y:m=1&", "y:m=1&m=", "y:m=1|", "y:m=1|m=", "y:m=1?",
            "y:m=1&m=1?", "y:!m=1?", "y:(m=1)?", "y:!m=1&m=", "y:(m=1)|m=", "y:[[[[[[m]]]]]]=", "y:((((((m=1))))))?",
            "y:!!!!!!m=1?", "y:1;y:", "y:m=1?1;y:", "y:m=1?1;y:m=", "y:m=1?1;y:m=1?"};
        for (String ahead : sums) {
            goesOn(1, ahead + "[[[[[[", DIGITS + LETTERS);
            faultIs(1, ahead + "[[[[[[[m]]]]]]]", ahead.length() + 6);
        }
        String[] conditions = {"y:", "y:m=1&", "y:m=1|", "y:m=1&m=1&", "y:m=1|m=1|", "y:m=1|m=1&", "y:m=1&m=1|", "y:!m=1&",
            "y:!m=1|", "y:(m=1)&", "y:(m=1)|", "y:((((((m=1))))))&", "y:!!!!!!m=1|", "y:1;y:", "y:m=1?1;y:m=1|"};
        for (String ahead : conditions) {
            for (String open : new String[] {"!!!!!!", "((((((", "(!(!(!", "!(!(!("}) {
                goesOn(1, ahead + open, DIGITS + LETTERS);
                for (String seventh : new String[] {"!m=1", "(m=1", "[m]=1", "m=[1]"}) {
                    int at = seventh.equals("m=[1]") ? 2 : 0;
                    faultIs(1, ahead + open + seventh, ahead.length() + 6 + at);
                }
            }
        }
    }

    private static void sixWithinOneAnother() {
        Check.of("At most six of ( [ ! within one another; FAULT: a seventh of ( [ ! in a LAW at it");
        String[] six = {"[[[[[[", "((((((", "!!!!!!", "(!(!(!", "!(!([[", "([[[[[", "!!!!![", "(((((!"};
        for (String open : six) {
            boolean sum = open.endsWith("[");
            goesOn(1, "y:" + open.substring(0, 5), sum && open.charAt(4) == '[' ? ATOMS : UNITS);
            goesOn(1, "y:" + open, DIGITS + LETTERS);
            faultIs(1, "y:" + open + "[m", 8);
            faultIs(1, "y:" + open + "(m", 8);
            faultIs(1, "y:" + open + "!m", 8);
        }
        seventhAnywhere();
        fits(1, "y:[[[[[[m]]]]]]");
        fits(1, "y:[[[[[[m]]]]]]+[[[[[[m]]]]]]=[[[[[[m]]]]]]&!!!!!!m=1|((((((m=1))))))?[[[[[[m]]]]]]");
        fits(1, "y:!!!!!!m=1;y:!!!!!!m=1".replace("=1", "=1?1"));
        faultIs(1, "y:[[[[[m+[m+[", 12);
        fits(1, "y:!(!(!(m=1)&!!m=1)&!m=[[[m]]])?1");
        faultIs(1, "y:!(!(!(m=1)&!!!m=1)&!m=[[[m]]])?1", 15);
        faultIs(1, "y:!(!(!(m=1)&!!m=1)&!m=[[[[m]]]])?1", 26);
        forceBy("y:[[[[[[7]]]]]]", 7);
        forceBy("y:!!!!!!m=8?7;y:5", 7);
        forceBy("y:!!!!!m=8?7;y:5", 5);
        forceBy("y:((((((m=8))))))?7;y:5", 7);
        forceBy("y:1+[2+[3+[4+[5+[6+[7]]]]]]", 28);
        forceBy("y:50-[9-[8-[7-[6-[5-[4]]]]]]", 47);
    }

    private static void withinAMillion() {
        Check.of("Behind each sign numbers are within -1,000,000 .. 1,000,000");
        forceBy("y:1000*1000-9999*100-50", 50);
        forceBy("y:1000*1000+1-9999*100-50", 50);
        forceBy("y:1000*1000+9999-9999*100-50", 50);
        forceBy("y:1000*1000-1-9999*100-50", 49);
        forceBy("y:1001*1000-9999*100-50", 50);
        forceBy("y:9999*9999-9999*100-50", 50);
        forceBy("y:1000*1000-[0-1]-9999*100-50", 50);
        forceBy("y:0-1000*1000+9999*100+150", 50);
        forceBy("y:0-1000*1000-1+9999*100+150", 50);
        forceBy("y:0-1000*1000-9999+9999*100+150", 50);
        forceBy("y:0-1000*1000+1+9999*100+150", 51);
        forceBy("y:0-1000*1000+[0-1]+9999*100+150", 50);
        forceBy("y:[0-1001]*1000+9999*100+150", 50);
        forceBy("y:[0-9999]*9999+9999*100+150", 50);
        forceBy("y:[0-1000*1000]*[0-1000*1000]-9999*100-50", 50);
        forceBy("y:[1000*1000]*[0-1000*1000]+9999*100+150", 50);
        forceBy("y:1000*1000/[0-1]+9999*100+150", 50);
        forceBy("y:9999*9999*9999*9999*9999/9999/10", 10);
        forceBy("y:1000*1000=9999*9999?5;y:6", 5);
        forceBy("y:0-1000*1000=[0-9999]*9999?5;y:6", 5);
        forceBy("y:1000*1000-1<9999*9999?5;y:6", 5);
    }

    private static void cutTowardsZero() {
        Check.of("/ cuts towards 0");
        forceBy("y:7/2", 3);
        forceBy("y:1/2", 0);
        forceBy("y:10+[0-7]/2", 7);
        forceBy("y:10+7/[0-2]", 7);
        forceBy("y:10+[0-7]/[0-2]", 13);
        forceBy("y:10+[0-1]/2", 10);
        forceBy("y:10+[0-1]/[0-2]", 10);
        Check.of("/ by 0 gives 0");
        forceBy("y:10+7/0", 10);
        forceBy("y:10+[0-7]/0", 10);
        forceBy("y:10+0/0", 10);
        forceBy("y:10+7/[m-8]", 10);
        forceBy("y:10+7/g*5+7/p", 10);
    }

    private static void firstClauseThatHolds() {
        Check.of("WORTH of a LAW: the SUM of the first CLAUSE whose CONDITION holds (or has none), 0 without");
        forceBy("y:m=8?1;y:m=8?2", 1);
        forceBy("y:m=7?1;y:m=8?2;y:3", 2);
        forceBy("y:m=7?1;y:m=9?2;y:3", 3);
        forceBy("y:4;y:m=8?1", 4);
        forceBy("y:m=7?1", 0);
        forceBy("y:m=7?1;y:m=9?2", 0);
        Check.of("one of = < >");
        forceBy("y:7=m?1;y:2", 2);
        forceBy("y:8=m?1;y:2", 1);
        forceBy("y:9=m?1;y:2", 2);
        forceBy("y:7<m?1;y:2", 1);
        forceBy("y:8<m?1;y:2", 2);
        forceBy("y:9<m?1;y:2", 2);
        forceBy("y:7>m?1;y:2", 2);
        forceBy("y:8>m?1;y:2", 2);
        forceBy("y:9>m?1;y:2", 1);
        Check.of("one of = < >, each behind !, within (, beside & and |");
        String[] holding = {"m=8", "m<9", "m>7"};
        String[] failing = {"m=7", "m<8", "m>8"};
        for (int i = 0; i < 3; i++) {
            forceBy("y:!" + holding[i] + "?1;y:2", 2);
            forceBy("y:!" + failing[i] + "?1;y:2", 1);
            forceBy("y:!!" + holding[i] + "?1;y:2", 1);
            forceBy("y:!(" + holding[i] + ")?1;y:2", 2);
            for (int j = 0; j < 3; j++) {
                forceBy("y:" + holding[i] + "&" + holding[j] + "?1;y:2", 1);
                forceBy("y:" + holding[i] + "&" + failing[j] + "?1;y:2", 2);
                forceBy("y:" + failing[i] + "&" + holding[j] + "?1;y:2", 2);
                forceBy("y:" + failing[i] + "|" + holding[j] + "?1;y:2", 1);
                forceBy("y:" + holding[i] + "|" + failing[j] + "?1;y:2", 1);
                forceBy("y:" + failing[i] + "|" + failing[j] + "?1;y:2", 2);
                forceBy("y:!" + holding[i] + "|!" + failing[j] + "?1;y:2", 1);
                forceBy("y:!" + failing[i] + "&!" + holding[j] + "?1;y:2", 2);
            }
        }
        Check.of("CONDITION: TRUTHS with | between; TRUTH: UNITS with & between; UNIT: ! UNIT, ( CONDITION )");
        for (int bits = 0; bits < 8; bits++) {
            String a = (bits & 1) == 1 ? "m=8" : "m=7";
            String b = (bits & 2) == 2 ? "m=8" : "m=7";
            String c = (bits & 4) == 4 ? "m=8" : "m=7";
            boolean p = (bits & 1) == 1;
            boolean q = (bits & 2) == 2;
            boolean r = (bits & 4) == 4;
            forceBy("y:" + a + "|" + b + "&" + c + "?1;y:2", p || q && r ? 1 : 2);
            forceBy("y:" + a + "&" + b + "|" + c + "?1;y:2", p && q || r ? 1 : 2);
            forceBy("y:(" + a + "|" + b + ")&" + c + "?1;y:2", (p || q) && r ? 1 : 2);
            forceBy("y:!" + a + "&" + b + "|!" + c + "?1;y:2", !p && q || !r ? 1 : 2);
            forceBy("y:!(" + a + "&" + b + ")&" + c + "?1;y:2", !(p && q) && r ? 1 : 2);
        }
        Check.of("SUM: TERMS with + or - between; TERM: ATOMS with * or / between");
        forceBy("y:20-5-4", 11);
        forceBy("y:20-5+4", 19);
        forceBy("y:40/4/5", 2);
        forceBy("y:40/4*5", 50);
        forceBy("y:3*7/2", 10);
        forceBy("y:2+3*4-10/5", 12);
        forceBy("y:20-[5-4]", 19);
        forceBy("y:40/[4/2]", 20);
    }

    // ---- campaigns ----

    private static void fourCampaigns() {
        Check.of("CAMPAIGNS (4 at most); text: its number. NONE: there are four");
        LosersBooks x = new LosersBooks();
        for (int i = 0; i < 4; i++) {
            due("count(3)", x.count(3), i);
            due("campaign " + i, Check.text(x, 2, "h" + i), i);
            due("the tape is empty", x.count(4), 0);
        }
        due("a fifth", Check.text(x, 2, "h9"), -1);
        due("it has no fault", x.fault(2), -1);
        due("its tape stays", x.count(4), 2);
        due("count(3)", x.count(3), 4);
        for (int i = 0; i < 4; i++) {
            due("step(" + i + ", 0, 1)", x.step(i, 0, 1), i);
        }
    }

    private static void oneToSixteenSteps() {
        Check.of("STEPS with ; between, 1 to 16; FAULT: the ; ahead of a 17th STEP");
        faultIs(2, "", 0);
        faultIs(2, "  ", 2);
        faultIs(2, ";", 0);
        fits(2, "y");
        for (int n = 1; n <= 16; n++) {
            LosersBooks x = new LosersBooks();
            due(n + " steps", Check.text(x, 2, times("y", n - 1, ";") + (n == 1 ? "h7" : ";h7")), 0);
            due("the last", x.step(0, n - 1, 1), 7);
            due("none behind it", x.step(0, n, 0), -1000000);
        }
        String sixteen = times("y", 16, ";");
        fits(2, sixteen + "  ");
        faultIs(2, sixteen + ";", 31);
        faultIs(2, sixteen + ";y", 31);
        faultIs(2, sixteen + "  ;y", 33);
        faultIs(2, times("a1", 16, ";") + ";x", 47);
        faultIs(2, times("y", 15, ";") + ";", 30);
        faultIs(2, times("y", 15, ";") + ";;", 30);
    }

    private static void digitsOfSteps() {
        Check.of("y (a YEAR), h and a digit, a and a digit, t and a digit (What is not there is no FAULT)");
        for (int digit = 0; digit <= 9; digit++) {
            LosersBooks x = new LosersBooks();
            due("all of " + digit, Check.text(x, 2, "h" + digit + ";a" + digit + ";t" + digit), 0);
            for (int i = 0; i < 3; i++) {
                due("step(0, " + i + ", 0)", x.step(0, i, 0), i + 1);
                due("step(0, " + i + ", 1)", x.step(0, i, 1), digit);
            }
        }
        for (String letter : new String[] {"h", "a", "t"}) {
            faultIs(2, letter, 1);
            faultIs(2, letter + " ", 2);
            faultIs(2, letter + ";y", 1);
            faultIs(2, letter + "10", 2);
            faultIs(2, letter + "00", 2);
            faultIs(2, letter + "09", 2);
            faultIs(2, "y;" + letter + "01;y", 4);
            faultIs(2, letter + "1 0", 3);
            faultIs(2, letter + "y", 1);
        }
        faultIs(2, "y0", 1);
        faultIs(2, "y 0", 2);
    }

    private static void campaignSigns() {
        Check.of("FAULT: the first byte at which no such TEXT (a CAMPAIGN) can go on");
        goesOn(2, "", "yhat");
        goesOn(2, "y", ";");
        goesOn(2, "h", DIGITS);
        goesOn(2, "a", DIGITS);
        goesOn(2, "t", DIGITS);
        goesOn(2, "h1", ";");
        goesOn(2, "y;", "yhat");
        goesOn(2, times("y", 15, ";") + ";", "yhat");
        goesOn(2, times("y", 15, ";"), ";");
        goesOn(2, times("y", 16, ";"), "");
        goesOn(2, times("y", 15, ";") + ";t9", "");
    }

    // ---- all texts ----

    private static void blanksBetweenSigns() {
        Check.of("Blanks (32) may stand between all signs of these, not within numbers");
        String[] texts = {"sw1c2;km3b4s5;k;fa0b1g2n3;f", "y:!m=1&(g<2|s>[p+w-d*3/4])?5;y:6", "y;h1;a2;t3"};
        for (int sort = 0; sort < 3; sort++) {
            StringBuilder apart = new StringBuilder("  ");
            for (char sign : texts[sort].toCharArray()) {
                apart.append(sign).append("   ");
            }
            fits(sort, texts[sort]);
            fits(sort, apart.toString());
            for (int at = 0; at <= texts[sort].length(); at++) {
                fits(sort, texts[sort].substring(0, at) + " " + texts[sort].substring(at));
                for (char other : new char[] {'\t', '\n', 31, 160}) {
                    faultIs(sort, texts[sort].substring(0, at) + other + texts[sort].substring(at), at);
                }
            }
        }
        faultIs(0, "km1 2;k;f", 4);
        faultIs(0, "sc1  2;k;k;f", 5);
        faultIs(0, "fn2 0;k;k", 4);
        faultIs(1, "y:1 2", 4);
        faultIs(1, "y:123 4", 6);
        fits(0, " k m 30 ; k b 9 ; f n 20 ");
        faultIs(0, "k m 31 ;k;f", 5);
        faultIs(0, "k m 311;k;f", 6);
    }

    private static void theFirstFaultCounts() {
        Check.of("FAULT: the first byte");
        faultIs(0, "km31b10m", 3);
        faultIs(0, "k;k;fa0b0;sw10;x", 13);
        faultIs(0, "k;k;fa3;fa3b9", 12);
        faultIs(1, "y:12345;x", 6);
        faultIs(1, "y:m?;x", 3);
        faultIs(2, "h;a;t;", 1);
        Check.of("What is refused changes nothing: a TEXT with a FAULT");
        LosersBooks x = Check.ruled("km9;k;f", "y:m+1");
        Check.text(x, 2, "y;a1");
        for (String text : new String[] {"km1;km2;km3;km4;f;f;fa0b0", "y:3;y:4;", "t1;t2;t3;"}) {
            for (int sort = 0; sort < 3; sort++) {
                due("text(" + sort + ") of " + text, Check.text(x, sort, text), -1);
            }
        }
        due("kingdoms", x.count(0), 2);
        due("fields", x.count(1), 1);
        due("might", x.kingdom(0, 0), 9);
        due("laws", x.count(2), 1);
        due("campaigns", x.count(3), 1);
        due("force by the law that holds", x.force(0, 0), 10);
        due("its first step", x.step(0, 0, 0), 0);
        due("its second step", x.step(0, 1, 0), 2);
        due("no third step", x.step(0, 2, 0), -1000000);
    }

    private static void whatIsGoneWithARealm() {
        Check.of("text: all that was of another one, TOLD, too, is gone but LAWS, which holds, CAMPAIGNS, INTRIGUE");
        LosersBooks x = Check.ruled("sc99;km9;km8;km7;km6;f;f;f;f;f;f;f;fa3b2", "y:m");
        Check.text(x, 1, "y:7");
        Check.text(x, 2, "h3");
        x.intrigue(8);
        x.years(30, 7);
        x.hold(1);
        x.told(3, 7, 29);
        x.image();
        due("the new one", Check.text(x, 0, "k;k;f"), 2);
        int[] want = {2, 1, 2, 1, 0, 0, 0, 20, 0, 8, 0, 0, 0};
        for (int what = 0; what < want.length; what++) {
            due("count(" + what + ")", x.count(what), want[what]);
        }
        int[] all = {0, 0, 0, 0, 0, 0, 0, 0, 0, 0, 0, 0, 1};
        for (int what = 0; what < all.length; what++) {
            due("all(" + what + ")", x.all(what), all[what]);
        }
        due("undo()", x.undo(), -1);
        due("back()", x.back(), -1);
        due("log(0, 0)", x.log(0, 0), -1000000);
        due("page(0, 0)", x.page(0, 0), -1);
        due("biases(0, -1)", x.biases(0, -1), 10);
        due("truths(0, -1)", x.truths(0, -1), 21);
        due("hold(3)", x.hold(3), -1);
        due("field(7, 0)", x.field(7, 0), -1);
        due("the step can't be now", x.run(0, 0), 0);
        for (int k = 0; k < 2; k++) {
            due("nobody holds back", x.kingdom(k, 5) + x.kingdom(k, 3) + x.kingdom(k, 4), 0);
        }
        due("the law holds", x.force(1, 0), 8);
    }

    /** What is read of a text, whether it was taken or not, is no part of the texts behind it. */
    private static void nothingOfAnotherText() {
        Check.of("ITEMS without: as told, whatever another TEXT told (one that was taken, one asked for its FAULT alone)");
        String[] others = {"sw9c99;km30b9s9;km30b9s9;km30b9s9;km30b9s9;fa3b2g9n20;fa3b2g9n20", "sw9c99;km30b9s9;fa3b2g9n20;x"};
        for (String other : others) {
            LosersBooks x = new LosersBooks();
            for (int time = 0; time < 4; time++) {
                Check.fault(x, 0, other);
                if (time % 2 == 1) {
                    Check.text(x, 0, other);
                }
                due("kingdoms", Check.text(x, 0, "k;km9;f"), 2);
                due("coins", x.count(7), 20);
                due("of 0", x.kingdom(0, 0) * 100 + x.kingdom(0, 1) * 10 + x.kingdom(0, 2), 823);
                due("fields", x.count(1), 1);
                due("of field 0", x.field(0, 0) * 1000 + x.field(0, 1) * 100 + x.field(0, 2) * 10 + x.field(0, 3), 107);
                int[] greatest = {1, 0, 0, 0, 0};
                for (int what = 0; what < greatest.length; what++) {
                    due("all(" + what + ") of those there are", x.all(what), greatest[what]);
                }
                due("the bloodiest of those there are", x.all(8), 0);
                x.year();
                due("a rout costs one", x.kingdom(0, 0), 7);
            }
        }
        Check.of("WORTH of a LAW: .. 0 without, whatever another TEXT told");
        for (String other : new String[] {"y:50;y:m=8?40;y:30;y:20;y:10", "y:m=7?50;y:m=8?40;y:30;y:20;x", "y:1+2+3+4+5*6*7"}) {
            LosersBooks x = Check.realm("k;k;f");
            for (int law = 0; law < 4; law++) {
                Check.fault(x, 1, other);
                due("law " + law, Check.text(x, 1, law < 2 ? "y:m=7?1" : "y:m=7?1;y:" + law), law);
                x.law(law);
                due("force by " + law + " behind " + other, x.force(0, 0), law < 2 ? 0 : law);
            }
        }
        Check.of("STEPS, 1 to 16, whatever another TEXT told");
        LosersBooks x = new LosersBooks();
        for (int campaign = 0; campaign < 4; campaign++) {
            Check.fault(x, 2, campaign % 2 == 0 ? times("t9", 16, ";") : "t9;t9;t9;x");
            due("campaign " + campaign, Check.text(x, 2, "y;a" + campaign), campaign);
            due("its first", x.step(campaign, 0, 0) * 10 + x.step(campaign, 0, 1), -1);
            due("its second", x.step(campaign, 1, 0) * 10 + x.step(campaign, 1, 1), 20 + campaign);
            due("no third", x.step(campaign, 2, 0), -1000000);
        }
        Check.of("text: all that was of another REALM, TOLD, too, is gone: what fitted nothing fits again");
        x = Check.realm("k;k;k;f;f;f");
        x.told(0, 0, 5);
        x.told(0, 0, 6);
        due("nothing fits", x.biases(1, -1), 0);
        due("another realm", Check.text(x, 0, "k;k;f"), 2);
        for (int k = 0; k < 2; k++) {
            due("biases(" + k + ", -1)", x.biases(k, -1), 10);
        }
        due("biases(2, -1)", x.biases(2, -1), -1);
        due("truths(0, -1)", x.truths(0, -1), 21);
        due("read(0)", x.read(0), 0);
        due("told(1, 0, 29)", x.told(1, 0, 29), 1);
        due("its bias", x.biases(1, 0), 9);
        due("told(2, 0, 5)", x.told(2, 0, 5), -1);
    }
}
