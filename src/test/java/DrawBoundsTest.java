import java.math.BigInteger;

/** Part 4 of the terms and promises 17, 40 and 41: sentence by sentence, the last that is taken and the first refused. */
public final class DrawBoundsTest {
    private static final BigInteger ROUND = BigInteger.ONE.shiftLeft(64);
    private static final BigInteger TIMES = new BigInteger("6364136223846793005");
    private static final BigInteger PLUS = new BigInteger("1442695040888963407");
    private static final int ANY = -1;

    private DrawBoundsTest() {
    }

    public static void main(String[] args) {
        oneToThirtyYears();
        belowIntrigue();
        sevenOrMore();
        whoseMight();
        mightThirtyAtMost();
        whoTurns();
        seedsGoRound();
        aheadOfEachYear();
        oneActEach();
        imageOfAll();
        imageInsteadOfTheOneAhead();
        imageOfThisRealm();
        nothingUndoneThen();
        Check.end();
    }

    private static void due(String call, long got, long want) {
        Check.due(call, got, want);
    }

    private static void due(String call, boolean got, boolean want) {
        Check.due(call, got, want);
    }

    // ---- draws, worked out by great numbers that do not go round by themselves ----

    private static long[] drawsOf(long seed, int many) {
        long[] draws = new long[many];
        BigInteger x = BigInteger.valueOf(seed).mod(ROUND);
        for (int i = 0; i < many; i++) {
            x = x.multiply(TIMES).add(PLUS).mod(ROUND);
            draws[i] = x.shiftRight(33).longValueExact();
        }
        return draws;
    }

    /**
     * The first seed from there on whose first year is so: the draw of intrigue, then (if it is below) who turns,
     * the draw of might, then (if it is 7 or more) whose. ANY: whatever it is.
     */
    private static long seedOf(long from, int intrigue, int kingdoms, int... want) {
        for (long seed = from; seed < from + 100000; seed++) {
            long[] draws = drawsOf(seed, 4);
            int next = 0;
            int[] got = {ANY, ANY, ANY, ANY};
            got[0] = (int) (draws[next++] % 10);
            if (got[0] < intrigue) {
                got[1] = (int) (draws[next++] % kingdoms);
            }
            got[2] = (int) (draws[next++] % 10);
            if (got[2] >= 7) {
                got[3] = (int) (draws[next++] % kingdoms);
            }
            boolean same = true;
            for (int i = 0; i < 4; i++) {
                same = same && (want[i] == ANY || want[i] == got[i]);
            }
            if (same) {
                return seed;
            }
        }
        throw new IllegalStateException("no such seed");
    }

    private static String heldBits(LosersBooks x) {
        StringBuilder b = new StringBuilder();
        for (int k = 0; k < x.count(0); k++) {
            b.append(x.kingdom(k, 5));
        }
        return b.toString();
    }

    private static String mights(LosersBooks x) {
        StringBuilder b = new StringBuilder();
        for (int k = 0; k < x.count(0); k++) {
            b.append(x.kingdom(k, 0)).append(' ');
        }
        return b.toString();
    }

    // ---- years ----

    private static void oneToThirtyYears() {
        Check.of("YEARS by a seed: n (1 .. 30); years: the YEAR. NONE: no REALM, out of bounds");
        for (int n = 1; n <= 30; n++) {
            LosersBooks x = Check.realm("k;k;f");
            due("years(" + n + ", 3)", x.years(n, 3), n);
            due("the year", x.count(6), n);
            due("the log", x.count(11), n);
        }
        LosersBooks x = Check.realm("k;k;f");
        for (int wrong : new int[] {0, 31, -1, Integer.MIN_VALUE, Integer.MAX_VALUE}) {
            due("years(" + wrong + ", 3)", x.years(wrong, 3), -1);
        }
        due("no year", x.count(6), 0);
        due("no act", x.count(12), 0);
        due("years(1, 1) without a realm", new LosersBooks().years(1, 1), -1);
        due("years(30, 1) without a realm", new LosersBooks().years(30, 1), -1);
        due("years(30, 1)", x.years(30, 1), 30);
        due("years(30, 1) again", x.years(30, 1), 60);
    }

    private static void belowIntrigue() {
        Check.of("a draw of 10 below INTRIGUE (0 .. 9; 2 at first): a draw of KINGDOMS: it HOLDS BACK");
        for (int intrigue = 0; intrigue <= 9; intrigue++) {
            for (int draw = 0; draw <= 9; draw++) {
                LosersBooks x = Check.realm("sw0;k;k;k;f");
                x.intrigue(intrigue);
                long seed = seedOf(17 * draw, intrigue, 3, draw, draw < intrigue ? 1 : ANY, ANY, ANY);
                x.years(1, seed);
                due("1 holds back by " + draw + " at " + intrigue, heldBits(x).equals("010"), draw < intrigue);
                due("none does else", heldBits(x).equals("000"), draw >= intrigue);
            }
        }
        LosersBooks x = Check.realm("sw0;k;k;k;f");
        x.years(1, seedOf(0, 2, 3, 1, 2, ANY, ANY));
        due("2 at first: 1 is below", heldBits(x).equals("001"), true);
        x = Check.realm("sw0;k;k;k;f");
        x.years(1, seedOf(0, 2, 3, 2, ANY, ANY, ANY));
        due("2 at first: 2 is not", heldBits(x).equals("000"), true);
    }

    private static void sevenOrMore() {
        Check.of("then a draw of 10: 7 or more: a draw of how many KINGDOMS: MIGHT 2 more");
        for (int intrigue : new int[] {0, 9}) {
            for (int draw = 0; draw <= 9; draw++) {
                LosersBooks x = Check.realm("sw0;k;k;k;f");
                x.intrigue(intrigue);
                x.years(1, seedOf(31 * draw, intrigue, 3, intrigue == 0 ? ANY : 5, ANY, draw, draw >= 7 ? 2 : ANY));
                due("might by " + draw, mights(x).equals(draw >= 7 ? "8 8 10 " : "8 8 8 "), true);
            }
        }
    }

    private static void whoseMight() {
        Check.of("a draw of how many KINGDOMS: whose MIGHT is 2 more");
        for (int kingdoms = 2; kingdoms <= 4; kingdoms++) {
            for (int k = 0; k < kingdoms; k++) {
                LosersBooks x = Check.realm("sw0;k;k" + ";k".repeat(kingdoms - 2) + ";f");
                x.intrigue(0);
                x.years(1, seedOf(5, 0, kingdoms, ANY, ANY, ANY, k));
                for (int other = 0; other < kingdoms; other++) {
                    due("might of " + other + ", drawn " + k, x.kingdom(other, 0), other == k ? 10 : 8);
                }
                due("no coins", x.count(7) >= 20, true);
            }
        }
    }

    private static void mightThirtyAtMost() {
        Check.of("MIGHT 2 more (30 at most)");
        int[][] cases = {{0, 2}, {27, 29}, {28, 30}, {29, 30}, {30, 30}};
        for (int[] one : cases) {
            LosersBooks x = Check.realm("sw0;km30;km30;km" + one[0] + ";f");
            x.intrigue(0);
            x.years(1, seedOf(9, 0, 3, ANY, ANY, 7, 2));
            due("might " + one[0] + " and 2", x.kingdom(2, 0), one[1]);
        }
    }

    private static void whoTurns() {
        Check.of("it HOLDS BACK, or does not any more");
        for (int kingdoms = 2; kingdoms <= 4; kingdoms++) {
            for (int k = 0; k < kingdoms; k++) {
                for (int held = 0; held <= 1; held++) {
                    LosersBooks x = Check.realm("sw0;k;k" + ";k".repeat(kingdoms - 2) + ";f");
                    for (int other = 0; other < kingdoms; other++) {
                        if (held == 1) {
                            x.hold(other);
                        }
                    }
                    x.years(1, seedOf(3, 2, kingdoms, ANY, k, ANY, ANY));
                    for (int other = 0; other < kingdoms; other++) {
                        due("held of " + other + ", drawn " + k, x.kingdom(other, 5), other == k ? 1 - held : held);
                    }
                }
            }
        }
    }

    private static void seedsGoRound() {
        Check.of("x, at first the seed, becomes x times .. and .. (64 bits, going round); shifted right by 33, without sign");
        long[] seeds = {0, 1, -1, 2, -2, Long.MIN_VALUE, Long.MAX_VALUE, 1L << 32, 1L << 33, -(1L << 33), 123456789012345678L};
        for (long seed : seeds) {
            LosersBooks x = Check.realm("sw0;km1;km2;km3;km4;f");
            x.intrigue(5);
            int[] might = {1, 2, 3, 4};
            int[] held = new int[4];
            long[] draws = drawsOf(seed, 120);
            int next = 0;
            for (int year = 0; year < 30; year++) {
                if (draws[next++] % 10 < 5) {
                    held[(int) (draws[next++] % 4)] ^= 1;
                }
                if (draws[next++] % 10 >= 7) {
                    int k = (int) (draws[next++] % 4);
                    might[k] = Math.min(30, might[k] + 2);
                }
            }
            due("years(30, " + seed + ")", x.years(30, seed), 30);
            for (int k = 0; k < 4; k++) {
                due("might of " + k + " by " + seed, x.kingdom(k, 0), might[k]);
                due("held of " + k + " by " + seed, x.kingdom(k, 5), held[k]);
            }
        }
        Check.of("x, at first the seed: each call begins with its own");
        LosersBooks once = Check.realm("sw0;km1;km2;f");
        once.years(7, 5);
        LosersBooks twice = Check.realm("sw0;km1;km2;f");
        twice.years(3, 99);
        for (int i = 0; i < 3; i++) {
            twice.undo();
        }
        twice.years(7, 5);
        due("the same seed", mights(once).equals(mights(twice)) && heldBits(once).equals(heldBits(twice)), true);
    }

    private static void aheadOfEachYear() {
        Check.of("ahead of each: .. (the draws come first, then the YEAR)");
        LosersBooks x = Check.realm("sw0;km8;km8;f");
        x.years(1, seedOf(0, 2, 2, ANY, 0, 3, ANY));
        due("0 holds back by then, and is beaten", x.log(0, 1), 0);
        x = Check.realm("sw0;km8;km8;f");
        x.intrigue(0);
        x.years(1, seedOf(0, 0, 2, ANY, ANY, 9, 1));
        due("1 is mightier by then, and 0 is beaten", x.log(0, 1), 0);
        x = Check.realm("sw0;km8;km7;f");
        x.intrigue(0);
        x.years(1, seedOf(0, 0, 2, ANY, ANY, 6, ANY));
        due("no draw: 1 is beaten", x.log(0, 1), 1);
    }

    private static void oneActEach() {
        Check.of("Each YEAR with what is ahead of it is one ACT");
        LosersBooks x = Check.realm("sw0;km8;km8;f");
        long seed = seedOf(0, 2, 2, 1, 1, 8, 0);
        x.years(1, seed);
        due("acts", x.count(12), 1);
        due("held, might", heldBits(x).equals("01") && mights(x).equals("10 8 "), true);
        due("undo()", x.undo(), 0);
        due("as it was", heldBits(x).equals("00") && mights(x).equals("8 8 "), true);
        due("the year", x.count(6), 0);
        due("the log", x.count(11), 0);
        due("pages", x.count(8), 0);
        x.years(30, 1);
        due("thirty acts", x.count(12), 30);
        x.years(10, 1);
        due("forty acts", x.count(12), 40);
        x.years(1, 1);
        due("forty at most", x.count(12), 40);
        for (int left = 39; left >= 0; left--) {
            due("undo()", x.undo(), left);
            due("the year", x.count(6), left + 1);
        }
        due("undo() of none", x.undo(), -1);
    }

    // ---- images ----

    private static String seen(LosersBooks x) {
        StringBuilder b = new StringBuilder();
        for (int what : new int[] {0, 1, 6, 7, 8, 11}) {
            b.append(x.count(what)).append(' ');
        }
        int kingdoms = x.count(0);
        for (int k = 0; k < kingdoms; k++) {
            for (int what = 0; what <= 5; what++) {
                b.append(x.kingdom(k, what)).append(' ');
            }
        }
        int pages = x.count(8);
        for (int i = 0; i < pages; i++) {
            b.append(x.page(i, 0)).append(x.page(i, 1)).append(x.page(i, 2)).append(' ');
        }
        int lines = x.count(11);
        for (int i = 0; i < lines; i += 2) {
            b.append(x.log(i, 0)).append(x.log(i, 1)).append(' ');
        }
        return b.toString();
    }

    private static void imageOfAll() {
        Check.of("An IMAGE keeps KINGDOMS (MIGHT, BIAS, STYLE, WINS, who HOLDS BACK), PAGES, COINS, the YEAR, the LOG");
        for (int years : new int[] {0, 1, 12}) {
            LosersBooks x = Check.realm("sw1c50;km20b5s5;km18b5s5;km16b5s5;f;fa1b2;fa2b0");
            if (years > 0) {
                x.years(years, 4);
            }
            String was = seen(x);
            due("image()", x.image(), years);
            due("it is no act", x.count(12), years);
            x.hold(0);
            x.arm(1);
            x.teach(2);
            x.swear(0);
            x.give(50);
            x.year();
            x.burn(0);
            x.years(9, 9);
            due("much changed", seen(x).equals(was), false);
            due("back()", x.back(), years);
            due("they are so again", seen(x).equals(was), true);
            x.year();
            due("back() again", x.back(), years);
            due("they are so again", seen(x).equals(was), true);
        }
        Check.of("An IMAGE keeps all four KINGDOMS, all 30 PAGES, all 60 lines of the LOG");
        LosersBooks full = Check.ruled("sw0c99;km8b5s5;km8b5s5;km8b5s5;km8b5s5;fg9;fa1b2g9;fa2b3g9;fa3b0g9", "y:g");
        full.years(30, 4);
        full.years(30, 5);
        for (int k = 0; k < 4; k++) {
            full.hold(k);
        }
        due("pages and lines", full.count(8) * 100 + full.count(11), 3060);
        String was = seen(full);
        due("image()", full.image(), 60);
        full.years(3, 1);
        for (int k = 0; k < 4; k++) {
            full.hold(k);
            full.arm(k);
            full.teach(k);
            full.swear(k);
        }
        full.burn(29);
        due("back()", full.back(), 60);
        due("they are so again", seen(full).equals(was), true);
        Check.of("An IMAGE keeps no LAW that holds, INTRIGUE, TOLD, TAPE");
        LosersBooks x = Check.ruled("k;k;f", "y:5");
        x.told(0, 0, 5);
        x.image();
        x.law(-1);
        x.intrigue(9);
        x.told(0, 0, 5);
        Check.text(x, 1, "y:6");
        Check.text(x, 2, "y");
        Check.feed(x, "abc");
        due("back()", x.back(), 0);
        due("no law holds", x.count(5), -1);
        due("intrigue", x.count(9), 9);
        due("told", x.count(10), 2);
        due("laws", x.count(2), 2);
        due("campaigns", x.count(3), 1);
        due("the tape", x.count(4), 3);
    }

    private static void imageInsteadOfTheOneAhead() {
        Check.of("image: An IMAGE (instead of the one ahead): the YEAR. NONE: no REALM");
        due("image() without a realm", new LosersBooks().image(), -1);
        LosersBooks x = Check.realm("k;k;f");
        due("image()", x.image(), 0);
        x.year();
        due("another", x.image(), 1);
        x.year();
        x.year();
        due("back() to it", x.back(), 1);
        due("and not to the first", x.back(), 1);
    }

    private static void imageOfThisRealm() {
        Check.of("back: BACK: the YEAR. NONE: no IMAGE of this REALM");
        due("back() without a realm", new LosersBooks().back(), -1);
        LosersBooks x = Check.realm("k;k;f");
        x.hold(0);
        due("back() of none", x.back(), -1);
        due("nothing changed", x.kingdom(0, 5), 1);
        due("the act can be undone still", x.count(12), 1);
        x.year();
        due("image()", x.image(), 1);
        due("a text with a fault", Check.text(x, 0, "k;k"), -1);
        due("back() still", x.back(), 1);
        due("another realm", Check.text(x, 0, "k;k;f"), 2);
        due("back() of another", x.back(), -1);
        due("the year", x.count(6), 0);
        due("image()", x.image(), 0);
        x.year();
        due("back()", x.back(), 0);
        Check.text(x, 1, "y:1");
        Check.text(x, 2, "y");
        x.year();
        due("back() behind a law and a campaign", x.back(), 0);
    }

    private static void nothingUndoneThen() {
        Check.of("BACK: they are so again (no ACT can be UNDONE then)");
        LosersBooks x = Check.realm("k;k;f");
        x.years(30, 1);
        x.years(30, 1);
        x.image();
        due("forty acts", x.count(12), 40);
        x.hold(0);
        due("back()", x.back(), 60);
        due("no act", x.count(12), 0);
        due("undo()", x.undo(), -1);
        due("the year", x.count(6), 60);
        x.hold(1);
        due("an act behind it", x.count(12), 1);
        due("undo()", x.undo(), 0);
        due("undo() of none", x.undo(), -1);
        Check.of("an IMAGE stays when ACTS are UNDONE");
        x.year();
        x.image();
        x.undo();
        due("the year", x.count(6), 60);
        due("back()", x.back(), 61);
    }
}
