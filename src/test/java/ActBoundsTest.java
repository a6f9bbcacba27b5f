/** Part 2 of the terms and promises 6 to 19: sentence by sentence, the last that is taken and the first that is refused. */
public final class ActBoundsTest {
    private static final int HIDDEN = -1000000;
    /** By the ground alone the first always wins, whose might soever grows. */
    private static final String UNEVEN = "sw0;km30b4;km5b1;fg9";
    private static final String GROUND = "y:g";
    private static final String MIGHT = "y:m";

    private ActBoundsTest() {
    }

    public static void main(String[] args) {
        aNewObject();
        forceWithinSixty();
        forceWithoutLaw();
        halfOfTheWins();
        lettersOfForce();
        whoWins();
        fieldOfTheYear();
        yearAtMost999();
        winsAtMost999();
        mightOfTheBeaten();
        styleOfTheBeaten();
        whatThePageTells();
        thirtyPages();
        pagesOfAKingdom();
        drawnLeavesNothing();
        coinsOfAPage();
        sixtyLines();
        holding();
        arming();
        teaching();
        swearing();
        burning();
        giving();
        fortyActs();
        eachActIsUndone();
        undoneOfTheLast();
        undoneWhenFull();
        lawsThatHold();
        intrigues();
        lastCall();
        Check.end();
    }

    private static void due(String call, long got, long want) {
        Check.due(call, got, want);
    }

    private static void due(String call, boolean got, boolean want) {
        Check.due(call, got, want);
    }

    private static void passYears(LosersBooks x, int n) {
        for (int i = 0; i < n; i++) {
            x.year();
        }
    }

    /** By so few calls as can be; nobody holds back by them, but might grows. */
    private static void passManyYears(LosersBooks x, int n) {
        x.intrigue(0);
        for (int left = n; left > 0; left -= 30) {
            x.years(Math.min(30, left), left);
        }
    }

    private static void aNewObject() {
        Check.of("LosersBooks(): No REALM; the YEAR 0 at first; INTRIGUE 2 at first; no LAW holds at first");
        LosersBooks x = new LosersBooks();
        for (int what = 0; what <= 12; what++) {
            due("count(" + what + ")", x.count(what), what == 5 ? -1 : what == 9 ? 2 : 0);
        }
        due("year()", x.year(), -2);
        due("image()", x.image(), -1);
        Check.text(x, 0, "k;k;f");
        due("the year of a new realm", x.count(6), 0);
        due("its intrigue", x.count(9), 2);
        due("its law", x.count(5), -1);
    }

    // ---- force ----

    private static void forceIs(String law, int whole, int half) {
        LosersBooks x = Check.ruled("k;k;f", law);
        due("force by " + law, x.force(0, 0), whole);
        x.hold(0);
        due("force by " + law + ", held back", x.force(0, 0), half);
    }

    private static void forceWithinSixty() {
        Check.of("FORCE: WORTH by the LAW, held within 0 .. 60, by 2, cut, if it HOLDS BACK");
        forceIs("y:0-1", 0, 0);
        forceIs("y:0-9999*9999", 0, 0);
        forceIs("y:0", 0, 0);
        forceIs("y:1", 1, 0);
        forceIs("y:2", 2, 1);
        forceIs("y:3", 3, 1);
        forceIs("y:59", 59, 29);
        forceIs("y:60", 60, 30);
        forceIs("y:61", 60, 30);
        forceIs("y:62", 60, 30);
        forceIs("y:9999*9999", 60, 30);
        forceIs("y:m=7?60", 0, 0);
    }

    private static void forceWithoutLaw() {
        Check.of("FORCE (none at first: MIGHT and GROUND ..)");
        for (int might : new int[] {0, 1, 29, 30}) {
            for (int ground : new int[] {0, 1, 9}) {
                LosersBooks x = Check.realm("km" + might + ";km" + might + ";fg" + ground);
                due("the first", x.force(0, 0), might + ground);
                due("the second", x.force(1, 0), might);
                x.hold(0);
                x.hold(1);
                due("the first, held back", x.force(0, 0), (might + ground) / 2);
                due("the second, held back", x.force(1, 0), might / 2);
            }
        }
    }

    private static void halfOfTheWins() {
        Check.of("FORCE: .. less half its WINS, cut");
        LosersBooks x = Check.ruled("sw0;km4;km3;fg1", MIGHT);
        int[] want = {5, 5, 4, 4, 3, 3, 2, 2, 1, 1, 0};
        for (int wins = 0; wins < want.length; wins++) {
            x.law(-1);
            due("wins", x.kingdom(0, 3), wins);
            due("force of " + wins + " wins", x.force(0, 0), want[wins]);
            due("force of the other", x.force(1, 0), 3);
            x.law(0);
            x.year();
        }
        x.law(-1);
        passYearsOf(x, 2);
        due("wins", x.kingdom(0, 3), 13);
        due("0 at least", x.force(0, 0), 0);
        x.hold(0);
        due("0 at least, held back", x.force(0, 0), 0);
    }

    private static void passYearsOf(LosersBooks x, int n) {
        x.law(0);
        passYears(x, n);
        x.law(-1);
    }

    private static void lettersOfForce() {
        Check.of("letters: m MIGHT, g GROUND (the second: 0), s STYLE, p PAGES it has, w WINS, d the YEAR");
        LosersBooks x = Check.realm("sw0;km9s4;km8s5;fg6;fa1b0g7");
        Check.text(x, 1, "y:m+g");
        Check.text(x, 1, "y:s+g");
        Check.text(x, 1, "y:p*10+w+g");
        Check.text(x, 1, "y:d+g");
        int[][] first = {{15, 9}, {10, 4}, {6, 0}, {6, 0}};
        int[][] second = {{8, 15}, {5, 12}, {0, 7}, {0, 7}};
        forcesAre(x, first, second);
        x.law(-1);
        passYears(x, 1);
        x.hold(0);
        passYears(x, 2);
        // 0 won one year, then 1 won two: 0 has two pages and a win, 1 one page and two wins.
        x.hold(0);
        int[][] firstThen = {{15, 9}, {12, 6}, {27, 21}, {9, 3}};
        int[][] secondThen = {{8, 15}, {6, 13}, {12, 19}, {3, 10}};
        forcesAre(x, firstThen, secondThen);
        x.burn(0);
        x.law(2);
        due("a page less", x.force(1, 0), 2);
    }

    private static void forcesAre(LosersBooks x, int[][] first, int[][] second) {
        for (int law = 0; law < 4; law++) {
            x.law(law);
            for (int field = 0; field < 2; field++) {
                due("force(0, " + field + ") by " + law, x.force(0, field), first[law][field]);
                due("force(1, " + field + ") by " + law, x.force(1, field), second[law][field]);
            }
        }
    }

    private static void whoWins() {
        Check.of("The one with more FORCE WINS; alike: DRAWN");
        int[] want = {1, -1, 0};
        for (int i = 0; i < 3; i++) {
            LosersBooks x = Check.realm("km" + (7 + i) + ";km8;f");
            due("wins(0) of " + (7 + i) + " and 8", x.wins(0), want[i]);
            due("year() of " + (7 + i) + " and 8", x.year(), want[i] == -1 ? -1 : 1 - want[i]);
            due("log(0, 1)", x.log(0, 1), want[i] == -1 ? -1 : 1 - want[i]);
        }
        due("none has any", Check.realm("km0;km0;f").year(), -1);
        due("both at their most", Check.ruled("km30;k;f", "y:m*10").year(), -1);
    }

    // ---- a year ----

    private static void fieldOfTheYear() {
        Check.of("the FIELD whose number is the YEAR modulo how many there are");
        for (int fields : new int[] {1, 2, 7, 8}) {
            LosersBooks x = Check.realm("k;k" + ";f".repeat(fields));
            for (int year = 0; year <= 2 * fields; year++) {
                due("next of year " + year, x.all(10), year % fields);
                for (int f = 0; f < fields; f++) {
                    due("last(" + f + ") of year " + year, x.last(f), (f - year % fields + fields) % fields + 1);
                }
                x.year();
                due("fought in year " + year, x.log(0, 0), year % fields);
            }
        }
        LosersBooks x = Check.realm("sw0;km30;km20;km10;km0;f;fa1b2;fa2b3;fa3b0g9;fa0b2;fa1b3;fa2b0g9;fa3b1");
        int[] beaten = {1, 2, 3, 3, 2, 3, 2, 3};
        for (int year = 0; year < 16; year++) {
            due("year() " + year, x.year(), beaten[year % 8]);
        }
    }

    private static LosersBooks late(int year) {
        LosersBooks x = Check.ruled(UNEVEN, GROUND);
        passManyYears(x, year);
        due("the year", x.count(6), year);
        return x;
    }

    private static void yearAtMost999() {
        Check.of("A YEAR (999 at most: none goes by then); year: -2: beyond 999");
        LosersBooks x = late(998);
        due("year()", x.year(), 1);
        due("the year", x.count(6), 999);
        String then = counts(x);
        due("year() then", x.year(), -2);
        due("years(1, 0) then", x.years(1, 0), -1);
        due("nothing changed", counts(x).equals(then), true);
        due("undo()", x.undo(), 39);
        due("year() again", x.year(), 1);
        Check.of("years: NONE: beyond 999");
        due("years(2, 0) at 998", late(998).years(2, 0), -1);
        due("years(1, 0) at 998", late(998).years(1, 0), 999);
        due("years(30, 0) at 970", late(970).years(30, 0), -1);
        due("years(29, 0) at 970", late(970).years(29, 0), 999);
        due("years(30, 0) at 969", late(969).years(30, 0), 999);
        x = late(970);
        then = counts(x);
        x.years(30, 0);
        due("nothing changed", counts(x).equals(then), true);
    }

    private static String counts(LosersBooks x) {
        StringBuilder b = new StringBuilder();
        for (int what = 0; what <= 12; what++) {
            b.append(x.count(what)).append(' ');
        }
        return b.toString();
    }

    private static void winsAtMost999() {
        Check.of("WINS one more (999 at most)");
        LosersBooks x = late(998);
        due("wins", x.kingdom(0, 3), 998);
        due("dumb", x.all(7), 998);
        x.year();
        due("wins", x.kingdom(0, 3), 999);
        due("wins of the beaten", x.kingdom(1, 3), 0);
        // Apart, years go on: were there a thousand wins, that year would be drawn.
        Check.text(x, 1, "y:w>999?0;y:g");
        x.law(1);
        due("peace() of 999 wins at most", x.peace(), -1);
        Check.text(x, 1, "y:w>998?0;y:g");
        x.law(2);
        due("peace() at 999 wins", x.peace(), 1);
        x.undo();
        due("peace() at 998 wins", x.peace(), 2);
    }

    private static void mightOfTheBeaten() {
        Check.of("who is BEATEN: MIGHT less by what a rout costs (0 at least)");
        int[][] cases = {{0, 5, 5}, {1, 5, 4}, {9, 10, 1}, {9, 9, 0}, {9, 8, 0}, {1, 1, 0}, {1, 0, 0}, {9, 0, 0}, {0, 0, 0}};
        for (int[] one : cases) {
            LosersBooks x = Check.realm("sw" + one[0] + ";km30;km" + one[1] + ";f");
            x.year();
            due("might " + one[1] + " less " + one[0], x.kingdom(1, 0), one[2]);
            due("might of who won", x.kingdom(0, 0), 30);
        }
    }

    private static void styleOfTheBeaten() {
        Check.of("who is BEATEN: STYLE one more (9 at most)");
        int[][] cases = {{0, 1}, {1, 2}, {7, 8}, {8, 9}, {9, 9}};
        for (int[] one : cases) {
            LosersBooks x = Check.realm("km30s" + one[0] + ";ks" + one[0] + ";f");
            x.year();
            due("style " + one[0] + " and one", x.kingdom(1, 2), one[1]);
            due("style of who won", x.kingdom(0, 2), one[0]);
        }
    }

    private static void whatThePageTells() {
        Check.of("it writes a PAGE: how many FELL in truth and its BIAS");
        for (int fell : new int[] {0, 1, 19, 20}) {
            for (int bias : new int[] {0, 1, 8, 9}) {
                LosersBooks x = Check.realm("km30;kb" + bias + ";fn" + fell);
                x.year();
                due("field", x.page(0, 0), 0);
                due("who wrote it", x.page(0, 1), 1);
                due("told of " + fell + " by " + bias, x.page(0, 2), fell + bias);
                due("the log's", x.log(0, 2), fell + bias);
                due("the lie", x.all(9), bias);
            }
        }
    }

    private static void thirtyPages() {
        Check.of("30 PAGES of all are kept at most; of more the oldest is lost");
        LosersBooks x = Check.ruled("sw0;km30;km9b1;km5b2;f;fb2n8;fn9", MIGHT);
        passYears(x, 29);
        due("29 pages", x.count(8), 29);
        due("no thirtieth", x.page(29, 0), -1);
        x.year();
        due("30 pages", x.count(8), 30);
        due("the thirtieth", x.page(29, 0), 2);
        due("none behind it", x.page(30, 0), -1);
        for (int i = 1; i <= 3; i++) {
            x.year();
            due("30 pages still", x.count(8), 30);
            due("the oldest is the next one", x.page(0, 0), i % 3);
            due("the latest", x.page(29, 0), (29 + i) % 3);
            due("none behind it", x.page(30, 0), -1);
        }
        due("burn(29)", x.burn(29), 29);
        x.year();
        due("none is lost, when there is room", x.page(0, 0), 0);
        due("30 pages", x.count(8), 30);
        due("coins of each", x.count(7), 20 + 34);
    }

    private static void pagesOfAKingdom() {
        Check.of("PAGES of a KINGDOM: those that are kept");
        LosersBooks x = Check.ruled("sw0;km30;km9;km5;f;fb2;fb2", MIGHT);
        passYears(x, 30);
        due("pages of 1", x.kingdom(1, 4), 10);
        due("pages of 2", x.kingdom(2, 4), 20);
        x.year();
        due("one of 1 came, one of 1 was lost", x.kingdom(1, 4), 10);
        x.year();
        x.burn(0);
        due("pages of 2", x.kingdom(2, 4), 19);
        due("pages of 0", x.kingdom(0, 4), 0);
        x = Check.ruled("sw0;km30;km9;f", MIGHT);
        passYears(x, 31);
        due("all are of 1", x.kingdom(1, 4), 30);
        Check.text(x, 1, "y:30-m");
        x.law(1);
        x.year();
        due("the oldest of 1 was lost", x.kingdom(1, 4), 29);
        due("for one of 0", x.kingdom(0, 4), 1);
    }

    private static void drawnLeavesNothing() {
        Check.of("DRAWN: nothing; LOG: the FIELD, who was BEATEN (NONE: DRAWN), what was told (NONE)");
        LosersBooks x = Check.realm("sw9;k;k;f;f");
        x.year();
        due("drawn", x.year(), -1);
        for (int k = 0; k < 2; k++) {
            due("might", x.kingdom(k, 0), 8);
            due("style", x.kingdom(k, 2), 3);
            due("wins", x.kingdom(k, 3), 0);
            due("pages", x.kingdom(k, 4), 0);
        }
        due("coins", x.count(7), 20);
        due("pages", x.count(8), 0);
        due("the year", x.count(6), 2);
        due("the log", x.count(11), 2);
        due("its field", x.log(0, 0), 1);
        due("who was beaten", x.log(0, 1), -1);
        due("what was told", x.log(0, 2), -1);
        due("it is an act", x.count(12), 2);
    }

    /** A realm with that many coins, from 99 on by gifts. */
    private static LosersBooks rich(String realm, int coins) {
        LosersBooks x = Check.ruled("sw0c" + Math.min(99, coins) + ";" + realm, MIGHT);
        for (int left = coins - 99; left > 0; left -= 50) {
            x.give(Math.min(50, left));
        }
        due("coins", x.count(7), coins);
        return x;
    }

    private static void coinsOfAPage() {
        Check.of("COINS one more, if a PAGE is written (999 at most)");
        for (int coins : new int[] {0, 1, 99, 997, 998, 999}) {
            LosersBooks x = rich("km30;km5;f", coins);
            x.year();
            due("coins of a year at " + coins, x.count(7), Math.min(999, coins + 1));
            x.year();
            due("coins of two years at " + coins, x.count(7), Math.min(999, coins + 2));
            due("pages", x.count(8), 2);
        }
    }

    private static void sixtyLines() {
        Check.of("LOG (the latest 60); log: the latest (i 0), the one ahead of it (1) ..; HIDDEN: no such ones");
        LosersBooks x = Check.ruled("sw0;km30b4;km5b1;f;fn1;fn2;fn3;fn4;fn5;fn6", MIGHT);
        due("log(0, 0) of none", x.log(0, 0), HIDDEN);
        passYears(x, 1);
        due("log(0, 2)", x.log(0, 2), 8);
        due("log(1, 0) of one", x.log(1, 0), HIDDEN);
        passYears(x, 58);
        due("59 lines", x.count(11), 59);
        due("log(58, 0)", x.log(58, 0), 0);
        due("log(59, 0)", x.log(59, 0), HIDDEN);
        x.year();
        due("60 lines", x.count(11), 60);
        due("log(59, 0)", x.log(59, 0), 0);
        due("log(60, 0)", x.log(60, 0), HIDDEN);
        for (int i = 1; i <= 8; i++) {
            x.year();
            due("60 lines still", x.count(11), 60);
            due("the latest", x.log(0, 0), (59 + i) % 7);
            due("the oldest is the next one", x.log(59, 0), i % 7);
            due("log(60, 0)", x.log(60, 0), HIDDEN);
        }
        linesAre(x, 68);
        for (int i : new int[] {-1, 60, 61, Integer.MIN_VALUE, Integer.MAX_VALUE}) {
            due("log(" + i + ", 1)", x.log(i, 1), HIDDEN);
        }
        for (int what : new int[] {-1, 3, Integer.MIN_VALUE, Integer.MAX_VALUE}) {
            due("log(0, " + what + ")", x.log(0, what), HIDDEN);
        }
    }

    /** All lines there are behind that many years of the seven fields, of which 1 lost each. */
    private static void linesAre(LosersBooks x, int years) {
        for (int i = 0; i < x.count(11); i++) {
            int field = (years - 1 - i) % 7;
            due("log(" + i + ", 0)", x.log(i, 0), field);
            due("log(" + i + ", 1)", x.log(i, 1), 1);
            due("log(" + i + ", 2)", x.log(i, 2), field == 0 ? 8 : field + 1);
        }
    }

    // ---- acts by hand ----

    private static void holding() {
        Check.of("hold: It HOLDS BACK, or not any more: whether it does then (1, 0). NONE: no such KINGDOM");
        for (int kingdoms = 2; kingdoms <= 4; kingdoms++) {
            LosersBooks x = Check.realm("k;k" + ";k".repeat(kingdoms - 2) + ";f");
            for (int k = 0; k < kingdoms; k++) {
                due("hold(" + k + ")", x.hold(k), 1);
                due("kingdom(" + k + ", 5)", x.kingdom(k, 5), 1);
                due("hold(" + k + ") again", x.hold(k), 0);
                due("kingdom(" + k + ", 5)", x.kingdom(k, 5), 0);
                due("hold(" + k + ") once more", x.hold(k), 1);
            }
            due("hold(" + kingdoms + ")", x.hold(kingdoms), -1);
            due("hold(-1)", x.hold(-1), -1);
            due("acts", x.count(12), 3 * kingdoms);
            due("no coins", x.count(7), 20);
            due("no year", x.count(6), 0);
        }
    }

    private static void arming() {
        Check.of("it ARMS (MIGHT one more, 30 at most; 2 COINS); arm: NONE: thirty, too few COINS");
        int[][] cases = {{0, 2, 1}, {0, 1, -1}, {0, 0, -1}, {0, 3, 1}, {28, 99, 29}, {29, 99, 30}, {29, 2, 30}, {30, 99, -1},
            {30, 1, -1}};
        for (int[] one : cases) {
            LosersBooks x = Check.realm("sc" + one[1] + ";k;km" + one[0] + ";f");
            due("arm at might " + one[0] + ", coins " + one[1], x.arm(1), one[2]);
            due("might", x.kingdom(1, 0), one[2] == -1 ? one[0] : one[2]);
            due("coins", x.count(7), one[2] == -1 ? one[1] : one[1] - 2);
            due("acts", x.count(12), one[2] == -1 ? 0 : 1);
            due("might of the other", x.kingdom(0, 0), 8);
        }
    }

    private static void teaching() {
        Check.of("it is TAUGHT (STYLE one more, 9 at most; 3 COINS); teach: NONE: nine, too few COINS");
        int[][] cases = {{0, 3, 1}, {0, 2, -1}, {0, 0, -1}, {0, 4, 1}, {7, 99, 8}, {8, 99, 9}, {8, 3, 9}, {9, 99, -1},
            {9, 2, -1}};
        for (int[] one : cases) {
            LosersBooks x = Check.realm("sc" + one[1] + ";k;ks" + one[0] + ";f");
            due("teach at style " + one[0] + ", coins " + one[1], x.teach(1), one[2]);
            due("style", x.kingdom(1, 2), one[2] == -1 ? one[0] : one[2]);
            due("coins", x.count(7), one[2] == -1 ? one[1] : one[1] - 3);
            due("acts", x.count(12), one[2] == -1 ? 0 : 1);
            due("style of the other", x.kingdom(0, 2), 3);
        }
    }

    private static void swearing() {
        Check.of("it SWEARS (BIAS one less, 0 at least; 4 COINS); swear: NONE: none, too few COINS");
        int[][] cases = {{9, 4, 8}, {9, 3, -1}, {9, 0, -1}, {9, 5, 8}, {2, 99, 1}, {1, 99, 0}, {1, 4, 0}, {0, 99, -1},
            {0, 3, -1}};
        for (int[] one : cases) {
            LosersBooks x = Check.realm("sc" + one[1] + ";k;kb" + one[0] + ";f");
            due("swear at bias " + one[0] + ", coins " + one[1], x.swear(1), one[2]);
            due("bias", x.kingdom(1, 1), one[2] == -1 ? one[0] : one[2]);
            due("coins", x.count(7), one[2] == -1 ? one[1] : one[1] - 4);
            due("acts", x.count(12), one[2] == -1 ? 0 : 1);
            due("bias of the other", x.kingdom(0, 1), 2);
        }
        LosersBooks x = Check.realm("km30;kb9;f");
        x.year();
        x.swear(1);
        due("what a page tells stays", x.page(0, 2), 16);
        x.year();
        due("a new one tells less", x.page(1, 2), 15);
    }

    private static void burning() {
        Check.of("a PAGE is BURNT (told by its number, the oldest 0): how many are kept then. NONE: no such PAGE");
        for (int pages : new int[] {0, 1, 2, 30}) {
            for (int page : new int[] {-1, 0, 1, pages - 1, pages, Integer.MIN_VALUE, Integer.MAX_VALUE}) {
                LosersBooks x = Check.ruled("sw0;km30;km9;f;fn1;fn2", MIGHT);
                passYears(x, pages);
                boolean may = page >= 0 && page < pages;
                due("burn(" + page + ") of " + pages, x.burn(page), may ? pages - 1 : -1);
                due("pages", x.count(8), may ? pages - 1 : pages);
                due("pages of 1", x.kingdom(1, 4), may ? pages - 1 : pages);
                due("acts", x.count(12), may ? pages + 1 : pages);
                for (int i = 0; i < (may ? pages - 1 : pages); i++) {
                    due("page(" + i + ", 0)", x.page(i, 0), (may && i >= page ? i + 1 : i) % 3);
                }
                due("page(" + x.count(8) + ", 0)", x.page(x.count(8), 0), -1);
                due("the log stays", x.count(11), pages);
                due("no coins", x.count(7), 20 + pages);
            }
        }
    }

    private static void giving() {
        Check.of("COINS are given (1 .. 50; 999 at most); give: NONE: no REALM, out of bounds, above 999");
        int[][] cases = {{20, 0}, {20, 1}, {20, 50}, {20, 51}, {20, -1}, {0, 1}, {949, 50}, {950, 50}, {950, 49}, {998, 1},
            {998, 2}, {999, 1}, {999, 0}, {20, Integer.MAX_VALUE}, {20, Integer.MIN_VALUE}, {999, Integer.MAX_VALUE}};
        for (int[] one : cases) {
            LosersBooks x = rich("k;k;f", one[0]);
            int acts = x.count(12);
            boolean may = one[1] >= 1 && one[1] <= 50 && one[0] + one[1] <= 999;
            due("give(" + one[1] + ") at " + one[0], x.give(one[1]), may ? one[0] + one[1] : -1);
            due("coins", x.count(7), may ? one[0] + one[1] : one[0]);
            due("acts", x.count(12), may ? acts + 1 : acts);
        }
        due("give(1) without a realm", new LosersBooks().give(1), -1);
        due("give(50) without a realm", new LosersBooks().give(50), -1);
    }

    // ---- acts undone ----

    private static void fortyActs() {
        Check.of("All these are ACTS: the latest 40 can be UNDONE one by one; undo: how many still can be. NONE: none");
        for (int acts : new int[] {0, 1, 39, 40, 41, 79, 80, 81, 95}) {
            LosersBooks x = Check.realm("sc0;k;k;f");
            for (int i = 0; i < acts; i++) {
                x.give(1 + i % 3);
            }
            int[] coins = new int[acts + 1];
            for (int i = 0; i < acts; i++) {
                coins[i + 1] = coins[i] + 1 + i % 3;
            }
            int can = Math.min(40, acts);
            due("acts of " + acts, x.count(12), can);
            for (int i = 1; i <= can; i++) {
                due("undo()", x.undo(), can - i);
                due("coins", x.count(7), coins[acts - i]);
            }
            due("undo() of none", x.undo(), -1);
            due("coins stay", x.count(7), coins[acts - can]);
            due("an act", x.give(1), coins[acts - can] + 1);
            due("it can be undone", x.undo(), 0);
        }
    }

    /** Each kind of act, then all of them undone: all is as it was ahead of each. */
    private static void eachActIsUndone() {
        Check.of("undo: The latest ACT is UNDONE (LOG, too)");
        LosersBooks x = Check.ruled("sw3c30;km20b5s5;km10b5s8;f", MIGHT);
        Check.text(x, 2, "h0;y;a0;t0");
        String[] was = new String[40];
        int acts = 0;
        for (int kind = 0; kind < 9; kind++) {
            was[acts] = seen(x);
            acts += act(x, kind);
            due("acts behind kind " + kind, x.count(12), acts);
        }
        for (int left = acts - 1; left >= 0; left--) {
            due("undo()", x.undo(), left);
            if (was[left] != null) {
                due("as it was ahead of act " + left, seen(x).equals(was[left]), true);
            }
        }
        Check.of("what is no ACT: law, intrigue, told, image, feed, end, text of a LAW or CAMPAIGN, undo itself");
        x = Check.realm("k;k;f");
        x.hold(0);
        Check.text(x, 1, "y:1");
        Check.text(x, 2, "y");
        x.law(0);
        x.intrigue(3);
        x.told(0, 0, 5);
        x.image();
        due("one act", x.count(12), 1);
        due("undo()", x.undo(), 0);
        due("laws stay", x.count(2) * 10 + x.count(3), 11);
        due("the law holds still", x.count(5), 0);
        due("intrigue stays", x.count(9), 3);
        due("told stays", x.count(10), 1);
    }

    private static void undoneOfTheLast() {
        Check.of("undo: The latest ACT is UNDONE, whose soever: the first KINGDOM's, the last one's");
        for (int k = 0; k < 4; k++) {
            LosersBooks x = Check.realm("sc99;km8b5s5;km8b5s5;km8b5s5;km8b5s5;fa" + k + "b" + (k + 1) % 4);
            x.hold(k);
            x.arm(k);
            x.teach(k);
            x.swear(k);
            x.year();
            due("held back, armed, taught, sworn", x.kingdom(k, 5) * 100 + x.kingdom(k, 1) * 10 + x.kingdom(k, 2), 147);
            due("beaten", x.log(0, 1), k);
            due("might", x.kingdom(k, 0), 8);
            x.undo();
            due("might, ahead of the year", x.kingdom(k, 0), 9);
            due("style, ahead of the year", x.kingdom(k, 2), 6);
            due("pages, ahead of the year", x.kingdom(k, 4), 0);
            due("wins of the other", x.kingdom((k + 1) % 4, 3), 0);
            x.undo();
            due("bias, ahead of the oath", x.kingdom(k, 1), 5);
            x.undo();
            due("style, ahead of the school", x.kingdom(k, 2), 5);
            x.undo();
            due("might, ahead of arming", x.kingdom(k, 0), 8);
            x.undo();
            due("not held back", x.kingdom(k, 5), 0);
            due("coins", x.count(7), 99);
        }
    }

    private static void undoneWhenFull() {
        Check.of("undo: the oldest PAGE that was lost, the oldest line of the LOG, are there again");
        LosersBooks x = Check.ruled("sw0;km30b4;km5b1;f;fn1;fn2;fn3;fn4;fn5;fn6", MIGHT);
        passYears(x, 61);
        x.burn(29);
        x.burn(0);
        due("pages", x.count(8), 28);
        x.undo();
        due("the oldest page", x.page(0, 0), 31 % 7);
        x.undo();
        due("the latest page", x.page(29, 0), 60 % 7);
        x.undo();
        due("pages", x.count(8), 30);
        for (int i = 0; i < 30; i++) {
            due("page(" + i + ", 0)", x.page(i, 0), (30 + i) % 7);
        }
        due("the log", x.count(11), 60);
        linesAre(x, 60);
    }

    /** Does acts of that kind; how many. */
    private static int act(LosersBooks x, int kind) {
        switch (kind) {
            case 0:
                x.year();
                return 1;
            case 1:
                x.hold(1);
                return 1;
            case 2:
                x.arm(1);
                return 1;
            case 3:
                x.teach(0);
                return 1;
            case 4:
                x.swear(1);
                return 1;
            case 5:
                x.burn(0);
                return 1;
            case 6:
                x.give(9);
                return 1;
            case 7:
                x.years(3, 5);
                return 3;
            default:
                return x.perform(0);
        }
    }

    private static String seen(LosersBooks x) {
        StringBuilder b = new StringBuilder();
        for (int what = 6; what <= 11; what++) {
            b.append(x.count(what)).append(' ');
        }
        for (int k = 0; k < 2; k++) {
            for (int what = 0; what <= 5; what++) {
                b.append(x.kingdom(k, what)).append(' ');
            }
        }
        return b.append(x.page(0, 2)).append(' ').append(x.log(0, 1)).toString();
    }

    // ---- settings ----

    private static void lawsThatHold() {
        Check.of("law: The LAW that holds (NONE: none). False: no such one");
        for (int laws = 0; laws <= 4; laws++) {
            LosersBooks x = Check.realm("k;k;f");
            for (int i = 0; i < laws; i++) {
                Check.text(x, 1, "y:" + (i + 20));
            }
            due("none holds by itself", x.count(5), -1);
            for (int law = 0; law < laws; law++) {
                due("law(" + law + ") of " + laws, x.law(law), true);
                due("it holds", x.count(5), law);
                due("force by it", x.force(0, 0), law + 20);
                for (int wrong : new int[] {-2, laws, 4, Integer.MIN_VALUE, Integer.MAX_VALUE}) {
                    due("law(" + wrong + ") of " + laws, x.law(wrong), false);
                }
                due("it holds still", x.count(5), law);
            }
            due("law(NONE)", x.law(-1), true);
            due("none holds", x.count(5), -1);
            due("force by none", x.force(0, 0), 8);
            due("law(" + laws + ")", x.law(laws), false);
        }
    }

    private static void intrigues() {
        Check.of("intrigue: INTRIGUE (0 .. 9). False: out of bounds, it is so");
        for (int v = 0; v <= 9; v++) {
            LosersBooks x = new LosersBooks();
            due("intrigue(" + v + ")", x.intrigue(v), v != 2);
            due("it is so", x.count(9), v);
            due("intrigue(" + v + ") again", x.intrigue(v), false);
            for (int wrong : new int[] {-1, 10, Integer.MIN_VALUE, Integer.MAX_VALUE}) {
                due("intrigue(" + wrong + ")", x.intrigue(wrong), false);
            }
            due("it stays", x.count(9), v);
        }
    }

    private static void lastCall() {
        Check.of("An object is used for at most 512 calls after it has been made");
        LosersBooks x = new LosersBooks();
        x.feed(0x6b3b6b3b, 0x66000000, 0, 0, 0);
        x.text(0);
        int calls = 2;
        for (int i = 0; calls < 511; i++) {
            due("hold(1)", x.hold(1), 1 - i % 2);
            calls++;
        }
        due("the 512th: acts", x.count(12), 40);
    }
}
