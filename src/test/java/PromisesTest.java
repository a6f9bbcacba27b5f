import java.util.NoSuchElementException;

/** Each promise of the document by itself, with answers worked out by hand. */
public final class PromisesTest {
    /** Three kingdoms: 0 beats 1 in field 0; 1 and 2 draw in field 1; 2 and 0 draw in field 2. */
    private static final String THREE =
        "sw2c20;km9b3s8;km7b0s2;km7b5s0;fa0b1g0n5;fa1b2g0n10;fa2b0g2n20";
    /** The first always wins, nothing is lost by it but pages are written. */
    private static final String UNEVEN = "sw0;km30b4;km5b1;f";
    /** By this law the might alone counts. */
    private static final String MIGHT = "y:m";

    private PromisesTest() {
    }

    public static void main(String[] args) {
        promise1();
        promise2();
        promise3();
        promise4Realm();
        promise4RealmAtEnd();
        promise4Law();
        promise4Campaign();
        promise5();
        promise6();
        promise7();
        promise8();
        promise9();
        promise10();
        promise10Pages();
        promise10Bounds();
        promise11();
        promise12();
        promise13();
        promise14();
        promise15();
        promise16();
        promise17();
        promise18();
        promise19();
        promise20();
        promise21();
        promise22();
        promise23();
        promise23Laws();
        promise24();
        promise25();
        promise26();
        promise27();
        promise28();
        promise29();
        promise30();
        promise31();
        promise32();
        promise33();
        promise34();
        promise35();
        promise36();
        promise37();
        promise37Pages();
        promise38();
        promise39();
        promise40And41();
        promise42();
        afterYear999();
        Check.end();
    }

    private static void due(String call, long got, long want) {
        Check.due(call, got, want);
    }

    private static void due(String call, boolean got, boolean want) {
        Check.due(call, got, want);
    }

    private static void passYears(LosersBooks x, int n) {
        for (int i = 0; i < n; i++) {
            x.year();
        }
    }

    private static Object thrownByKingdom(LosersBooks x, int kingdom, int what) {
        try {
            x.kingdom(kingdom, what);
            return null;
        } catch (RuntimeException e) {
            return e;
        }
    }

    /** count(0) to count(12), to see that a refused call changes nothing of it. */
    private static String counts(LosersBooks x) {
        StringBuilder b = new StringBuilder();
        for (int what = 0; what <= 12; what++) {
            b.append(x.count(what)).append(' ');
        }
        return b.toString();
    }

    private static void promise1() {
        LosersBooks x = new LosersBooks();
        for (int what = 0; what <= 12; what++) {
            due("new: count(" + what + ")", x.count(what), what == 5 ? -1 : what == 9 ? 2 : 0);
        }
        due("new: year()", x.year(), -2);
        due("new: all(0)", x.all(0), -1);
        due("new: back()", x.back(), -1);
        due("new: image()", x.image(), -1);
        due("NONE", LosersBooks.NONE, -1);
        due("HIDDEN", LosersBooks.HIDDEN, -1000000);
    }

    private static void promise2() {
        LosersBooks x = new LosersBooks();
        due("feed of nothing", x.feed(0, 0, 0, 0, 0), 0);
        due("feed, zeros left out", x.feed(0x6b003b00, 0, 0x0000006b, 0x3b000000, 0x00660000), 5);
        due("the highest byte is first", x.text(0), 2);
        due("feed of signs above 127", x.feed(-1, -1, -1, -1, -1), 20);
        for (int i = 2; i <= 12; i++) {
            due("feed", x.feed(0x20202020, 0x20202020, 0x20202020, 0x20202020, 0x20202020), 20 * i);
        }
        due("feed beyond 240", x.feed(0, 0, 0, 0, 0x20), -1);
        due("nothing came", x.count(4), 240);
        due("feed of nothing at 240", x.feed(0, 0, 0, 0, 0), 240);
        x.end(230);
        due("feed of more than there is room for", x.feed(0x20202020, 0x20202020, 0x20202000, 0, 0), -1);
        due("nothing of it came", x.count(4), 230);
        due("feed up to 240", x.feed(0x20202020, 0x20202020, 0x20200000, 0, 0), 240);
        for (int i = 0; i < 20; i++) {
            int[] five = new int[5];
            five[i / 4] = (i % 2 == 0 ? 1 : 128) << 24 - i % 4 * 8;
            x.end(240);
            due("one byte beyond", x.feed(five[0], five[1], five[2], five[3], five[4]), -1);
            x.end(239);
            due("one byte up to it", x.feed(five[0], five[1], five[2], five[3], five[4]), 240);
            five[(i / 4 + 2) % 5] = 0x00100000;
            x.end(239);
            due("two bytes beyond", x.feed(five[0], five[1], five[2], five[3], five[4]), -1);
            due("none of them came", x.count(4), 239);
            x.end(238);
            due("two bytes up to it", x.feed(five[0], five[1], five[2], five[3], five[4]), 240);
        }
    }

    private static void promise3() {
        LosersBooks x = new LosersBooks();
        due("end(0) of nothing", x.end(0), true);
        due("end(1) of nothing", x.end(1), false);
        due("end(-1)", x.end(-1), false);
        Check.feed(x, "k;k;fz");
        due("end beyond", x.end(7), false);
        due("end(least)", x.end(Integer.MIN_VALUE), false);
        due("bytes", x.count(4), 6);
        due("end(6)", x.end(6), true);
        due("fault with z", x.fault(0), 5);
        due("end(5)", x.end(5), true);
        due("the first five alone", x.fault(0), -1);
        due("end(6) when five are left", x.end(6), false);
    }

    private static void faultIs(int sort, String text, int want) {
        Check.faultIs(sort, text, want);
    }

    private static void promise4Realm() {
        due("fault(3)", new LosersBooks().fault(3), -2);
        due("fault(-1)", new LosersBooks().fault(-1), -2);
        faultIs(0, "k;k;f", -1);
        faultIs(0, "f;s;k;k", -1);
        faultIs(0, "  k m 3 0 ", 8);
        faultIs(0, " k  m 30 s 09 b9;f g9 n20 a 01 b00 ; k m0b0s0;s w9 c99 ", -1);
        faultIs(0, "s;k;k;k;k;f;f;f;f;f;f;f;f", -1);
        faultIs(0, "sw10", 3);
        faultIs(0, "sw10;k;k;f", 3);
        faultIs(0, "sw99", 3);
        faultIs(0, "sw999", 4);
        faultIs(0, "sc99", 4);
        faultIs(0, "sc100", 4);
        faultIs(0, "sc001", 4);
        faultIs(0, "km30", 4);
        faultIs(0, "km31", 3);
        faultIs(0, "km31 ", 3);
        faultIs(0, "km 31", 4);
        faultIs(0, "km311", 4);
        faultIs(0, "kb10", 3);
        faultIs(0, "ks10", 3);
        faultIs(0, "fa4", 2);
        faultIs(0, "fa40", 3);
        faultIs(0, "fb4", 2);
        faultIs(0, "fg10", 3);
        faultIs(0, "fn21", 3);
        faultIs(0, "km", 2);
        faultIs(0, "km ", 3);
        faultIs(0, "km;k", 2);
        faultIs(0, "kmb", 2);
        faultIs(0, "k1", 1);
        faultIs(0, "km1 1", 4);
        faultIs(0, "km1b1m1", 5);
        faultIs(0, "sw1w", 3);
        faultIs(0, "sm1", 1);
        faultIs(0, "kw1", 1);
        faultIs(0, "fs1", 1);
        faultIs(0, "s;k;s", 4);
        faultIs(0, "k;k;k;k;k", 8);
        faultIs(0, "f;f;f;f;f;f;f;f;f", 16);
        faultIs(0, ";k", 0);
        faultIs(0, "k;;k", 2);
        faultIs(0, "K", 0);
        faultIs(0, "k,k", 1);
        faultIs(0, "k\tm1", 1);
        faultIs(0, "k\u00ff", 1);
        faultIs(0, "kk", 1);
    }

    private static void promise4RealmAtEnd() {
        faultIs(0, "", 0);
        faultIs(0, "   ", 3);
        faultIs(0, "k;f", 3);
        faultIs(0, "k;k", 3);
        faultIs(0, "f", 1);
        faultIs(0, "s", 1);
        faultIs(0, "k;k;f;", 6);
        faultIs(0, "k;k;f; ", 7);
        faultIs(0, "k;k;fb2", 7);
        faultIs(0, "fb2;k;k", 7);
        faultIs(0, "fb2;k;k;k", -1);
        faultIs(0, "k;k;fa3", 7);
        faultIs(0, "k;k;fa1", 7);
        faultIs(0, "k;k;fb0", 7);
        faultIs(0, "k;k;fa0b0;f ", 12);
        faultIs(0, "k;k;fa1b0", -1);
        faultIs(0, "k;k;fb2;x", 8);
    }

    private static void promise4Law() {
        faultIs(1, "y:m", -1);
        faultIs(1, " y : m + 12 * [ g - s ] / p ; y : ! m = 1 & ( w < 2 | d > 3 ) ? 9999 ", -1);
        faultIs(1, "", 0);
        faultIs(1, "y", 1);
        faultIs(1, "y:", 2);
        faultIs(1, "y:m;", 4);
        faultIs(1, "m", 0);
        faultIs(1, "ym", 1);
        faultIs(1, "y:x", 2);
        faultIs(1, "y:12345", 6);
        faultIs(1, "y:00000", 6);
        faultIs(1, "y:1 2", 4);
        faultIs(1, "y:mm", 3);
        faultIs(1, "y:m+", 4);
        faultIs(1, "y:+m", 2);
        faultIs(1, "y:-1", 2);
        faultIs(1, "y:m?1", 3);
        faultIs(1, "y:m=1", 5);
        faultIs(1, "y:m=1;", 5);
        faultIs(1, "y:m=1=1", 5);
        faultIs(1, "y:m=1?", 6);
        faultIs(1, "y:m=1?1", -1);
        faultIs(1, "y:m=1?1?1", 7);
        faultIs(1, "y:m=1?1=1", 7);
        faultIs(1, "y:m=1?m=1?1", 7);
        faultIs(1, "y:(m)", 4);
        faultIs(1, "y:(m=1)", 7);
        faultIs(1, "y:(m=1)+1", 7);
        faultIs(1, "y:(m=1)=1", 7);
        faultIs(1, "y:(m=1)&m?1", 9);
        faultIs(1, "y:[m=1]", 4);
        faultIs(1, "y:[(m)]", 3);
        faultIs(1, "y:[!m]", 3);
        faultIs(1, "y:[m]<[s]?[1]", -1);
        faultIs(1, "y:[m)", 4);
        faultIs(1, "y:(m=1]", 6);
        faultIs(1, "y:!m;", 4);
        faultIs(1, "y:!(!(m<1))?1", -1);
        faultIs(1, "y:m&1", 3);
        faultIs(1, "y:m=1&!s=2|p>3?1", -1);
        faultIs(1, "y:[[[[[[m]]]]]]", -1);
        faultIs(1, "y:[[[[[[[m]]]]]]]", 8);
        faultIs(1, "y:!(!(!([1]=1)))?1", 8);
        faultIs(1, "y:!(!(!(1=1)))?[[[[[[1]]]]]]", -1);
        faultIs(1, "y:!!!!!!m=1?1", -1);
        faultIs(1, "y:!!!!!!!m=1?1", 8);
        faultIs(1, "y:!!!!!![m]=1?1", 8);
        faultIs(1, "y:((((((m=1))))))?1", -1);
        faultIs(1, "y:(((((((m=1)))))))?1", 8);
        faultIs(1, "y:!!!!!!m=1&!!!!!!m=2?1", -1);
        faultIs(1, "y:1;y:2 ; y : 3", -1);
        faultIs(1, "y:1;2", 4);
        faultIs(1, "y:m\u00e9", 3);
    }

    private static void promise4Campaign() {
        faultIs(2, "y", -1);
        faultIs(2, " y ; h 0 ;a9;t5 ", -1);
        faultIs(2, "", 0);
        faultIs(2, "h", 1);
        faultIs(2, "h ", 2);
        faultIs(2, "h;", 1);
        faultIs(2, "h12", 2);
        faultIs(2, "h1 2", 3);
        faultIs(2, "y1", 1);
        faultIs(2, "yy", 1);
        faultIs(2, "y;", 2);
        faultIs(2, "y;;y", 2);
        faultIs(2, "s1", 0);
        faultIs(2, "y;y;y;y;y;y;y;y;y;y;y;y;y;y;y;y", -1);
        faultIs(2, "y;y;y;y;y;y;y;y;y;y;y;y;y;y;y;y;", 31);
        faultIs(2, "y;y;y;y;y;y;y;y;y;y;y;y;y;y;y;y ;y", 32);
        faultIs(2, "y;y;y;y;y;y;y;y;y;y;y;y;y;y;y;yy", 31);
    }

    private static void promise5() {
        LosersBooks x = new LosersBooks();
        due("text(-1)", x.text(-1), -1);
        Check.feed(x, "k;k;f");
        due("text(3)", x.text(3), -1);
        due("text(1) of a realm", x.text(1), -1);
        due("the tape stays", x.count(4), 5);
        due("text(0)", x.text(0), 2);
        due("the tape is empty", x.count(4), 0);
        for (int i = 0; i < 4; i++) {
            due("law " + i, Check.text(x, 1, "y:" + i), i);
            due("campaign " + i, Check.text(x, 2, "y;h" + i), i);
        }
        due("a fifth law", Check.text(x, 1, "y:5"), -1);
        due("its tape stays", x.count(4), 3);
        due("a fifth campaign", Check.text(x, 2, "y"), -1);
        due("its tape stays", x.count(4), 1);
        x.law(3);
        x.intrigue(7);
        x.hold(0);
        x.year();
        x.year();
        x.told(0, 0, 9);
        x.image();
        due("a realm with a fault", Check.text(x, 0, "k;k"), -1);
        due("nothing changed", counts(x).equals("2 1 4 4 3 3 2 22 2 7 1 2 3 "), true);
        due("another realm", Check.text(x, 0, "sc7;km1;km2;km3;f;f"), 3);
        due("all of the old one is gone", counts(x).equals("3 2 4 4 0 3 0 7 0 7 0 0 0 "), true);
        due("undo()", x.undo(), -1);
        due("back()", x.back(), -1);
        due("wins are gone", x.all(7), 0);
        due("nobody holds back", x.kingdom(0, 5), 0);
        due("the might of the new one", x.kingdom(2, 0), 3);
        due("the law that holds is still there", x.force(0, 0), 3);
        due("biases are free again", x.biases(0, -1), 10);
    }

    private static void promise6() {
        LosersBooks x = Check.realm("k;km30b9s0;f");
        int[][] want = {{8, 2, 3, 0, 0, 0}, {30, 9, 0, 0, 0, 0}};
        for (int k = 0; k < 2; k++) {
            for (int what = 0; what <= 5; what++) {
                due("kingdom(" + k + ", " + what + ")", x.kingdom(k, what), want[k][what]);
            }
        }
        x.hold(1);
        x.year();
        int[][] then = {{7, 2, 4, 0, 1, 0}, {30, 9, 0, 1, 0, 1}};
        for (int k = 0; k < 2; k++) {
            for (int what = 0; what <= 5; what++) {
                due("later kingdom(" + k + ", " + what + ")", x.kingdom(k, what), then[k][what]);
            }
        }
        int[][] wrong = {{2, 0}, {-1, 0}, {0, 6}, {0, -1}, {Integer.MIN_VALUE, 0}, {0, Integer.MAX_VALUE}};
        for (int[] one : wrong) {
            Check.thrown("kingdom(" + one[0] + ", " + one[1] + ")", thrownByKingdom(x, one[0], one[1]),
                NoSuchElementException.class);
        }
        Check.thrown("kingdom(0, 0) without a realm", thrownByKingdom(new LosersBooks(), 0, 0), NoSuchElementException.class);
    }

    private static void promise7() {
        LosersBooks x = Check.realm("k;k;k;f;fa2b1g9n20");
        int[][] want = {{0, 1, 0, 7}, {2, 1, 9, 20}};
        for (int f = 0; f < 2; f++) {
            for (int what = 0; what < 4; what++) {
                due("field(" + f + ", " + what + ")", x.field(f, what), want[f][what]);
            }
        }
        due("field(2, 0)", x.field(2, 0), -1);
        due("field(-1, 0)", x.field(-1, 0), -1);
        due("field(0, 4)", x.field(0, 4), -1);
        due("field(0, -1)", x.field(0, -1), -1);
    }

    private static void promise8() {
        LosersBooks x = new LosersBooks();
        due("law(0) of none", x.law(0), false);
        due("law(NONE)", x.law(-1), true);
        Check.text(x, 1, "y:5");
        due("no law holds by itself", x.count(5), -1);
        due("law(0)", x.law(0), true);
        due("law(0) again", x.law(0), true);
        due("law(1)", x.law(1), false);
        due("law(-2)", x.law(-2), false);
        due("it holds", x.count(5), 0);
        Check.text(x, 0, "k;k;f");
        due("force by it", x.force(0, 0), 5);
        due("law(NONE)", x.law(-1), true);
        due("force by none", x.force(0, 0), 8);
    }

    private static void promise9() {
        LosersBooks x = new LosersBooks();
        due("intrigue(2) as it is", x.intrigue(2), false);
        due("intrigue(-1)", x.intrigue(-1), false);
        due("intrigue(10)", x.intrigue(10), false);
        due("intrigue(9)", x.intrigue(9), true);
        due("intrigue(9) again", x.intrigue(9), false);
        due("count(9)", x.count(9), 9);
        due("intrigue(0)", x.intrigue(0), true);
        due("count(9)", x.count(9), 0);
    }

    private static void promise10() {
        LosersBooks x = Check.realm(THREE);
        due("year()", x.year(), 1);
        due("the year", x.count(6), 1);
        due("coins", x.count(7), 21);
        due("wins of who won", x.kingdom(0, 3), 1);
        due("wins of the beaten", x.kingdom(1, 3), 0);
        due("might of the beaten", x.kingdom(1, 0), 5);
        due("might of who won", x.kingdom(0, 0), 9);
        due("style of the beaten", x.kingdom(1, 2), 3);
        due("style of who won", x.kingdom(0, 2), 8);
        due("what the page tells", x.page(0, 2), 5);
        x = Check.realm("k;k;f");
        due("a drawn year()", x.year(), -1);
        due("coins when drawn", x.count(7), 20);
        due("pages when drawn", x.count(8), 0);
        due("wins when drawn", x.all(7), 0);
        due("it is in the log", x.count(11), 1);
        x = Check.realm("sw9;km30s9;km5s9;fa1b0;f");
        due("year() of the first beaten", x.year(), 1);
        due("might 0 at least", x.kingdom(1, 0), 0);
        due("style 9 at most", x.kingdom(1, 2), 9);
        due("year() of the second field", x.year(), 1);
        due("the log's field", x.log(0, 0), 1);
        due("year() without a realm", new LosersBooks().year(), -2);
    }

    private static void promise10Pages() {
        LosersBooks x = Check.realm("sw0;km30b4;km5b9;k;f;fa0b2n3");
        passYears(x, 30);
        due("thirty pages", x.count(8), 30);
        due("the oldest", x.page(0, 0), 0);
        x.year();
        due("thirty pages still", x.count(8), 30);
        due("the oldest was lost", x.page(0, 0), 1);
        due("the latest", x.page(29, 1), 1);
        due("pages of 1", x.kingdom(1, 4), 15);
        due("pages of 2", x.kingdom(2, 4), 15);
        due("coins", x.count(7), 51);
        passYears(x, 31);
        due("the log", x.count(11), 60);
        due("wins lead to fewer force", x.force(0, 0), 30 - x.kingdom(0, 3) / 2);
    }

    private static void promise10Bounds() {
        // Without a law wins weaken; this law lets 0 win for ever.
        LosersBooks x = Check.ruled("sw1c99;km30b0;km5b1;f", "y:m");
        for (int i = 0; i < 18; i++) {
            x.give(50);
        }
        due("coins", x.count(7), 999);
        due("year()", x.year(), 1);
        due("coins 999 at most", x.count(7), 999);
        for (int i = 0; i < 33; i++) {
            x.years(30, i);
        }
        due("the year", x.count(6), 991);
        for (int i = 0; i < 8; i++) {
            due("year() is not refused", x.year() != -2, true);
        }
        due("the year", x.count(6), 999);
        String then = counts(x);
        due("year() beyond 999", x.year(), -2);
        due("nothing changed", counts(x).equals(then), true);
        due("years beyond 999", x.years(1, 1), -1);
    }

    private static void afterYear999() {
        LosersBooks x = Check.ruled("sw0c0;km30b0;km5b1;f", "y:m+d/1000*30;y:1");
        x.intrigue(0);
        for (int i = 0; i < 33; i++) {
            x.years(30, i);
        }
        due("the year", x.count(6), 990);
        due("years beyond 999", x.years(10, 1), -1);
        due("years up to 999", x.years(9, 1), 999);
        x = Check.ruled("sw0c0;km30b0;km5b1;fg9", "y:g*3-d/1000*60");
        Check.text(x, 2, "h0;h0;y;h0");
        x.intrigue(0);
        for (int i = 0; i < 37; i++) {
            x.years(27, 77);
        }
        due("the year", x.count(6), 999);
        due("run: a year can't be", x.run(0, 0), 2);
        due("run: no page", x.run(0, 1), 0);
        due("perform up to there", x.perform(0), 2);
        due("no year went by", x.count(6), 999);
        due("peace: years go on behind 999", x.peace(), 2);
        due("shelf: years go on behind 999", x.shelf(1, 30), 0);
        due("wins by years", x.kingdom(0, 3), 999);
        due("scheme: 1 is beaten once more, then drawn", x.scheme(1, 20, 1), 30);
        Check.text(x, 1, "y:w>999?0;y:g*3");
        x.law(1);
        due("wins are 999 at most", x.peace(), -1);
        x.law(-1);
        due("force without a law is 0 at least", x.force(0, 0), 0);
        due("wins(0)", x.wins(0), 1);
    }

    private static void promise11() {
        LosersBooks x = Check.realm("k;k;f");
        due("hold(0)", x.hold(0), 1);
        due("kingdom(0, 5)", x.kingdom(0, 5), 1);
        due("kingdom(1, 5)", x.kingdom(1, 5), 0);
        due("hold(0) again", x.hold(0), 0);
        due("hold(2)", x.hold(2), -1);
        due("hold(-1)", x.hold(-1), -1);
        due("acts", x.count(12), 2);
        due("coins", x.count(7), 20);
    }

    private static void promise12() {
        LosersBooks x = Check.realm("sc5;km28;km30;f");
        due("arm(0)", x.arm(0), 29);
        due("coins", x.count(7), 3);
        due("arm(1) at thirty", x.arm(1), -1);
        due("arm(2)", x.arm(2), -1);
        due("arm(-1)", x.arm(-1), -1);
        due("arm(0)", x.arm(0), 30);
        due("coins", x.count(7), 1);
        x.undo();
        x.undo();
        x.teach(0);
        due("coins", x.count(7), 2);
        due("arm(0) by the last two coins", x.arm(0), 29);
        due("arm(0) without coins", x.arm(0), -1);
        due("acts", x.count(12), 2);
        x = Check.realm("sc1;k;k;f");
        due("arm(0) by one coin", x.arm(0), -1);
        due("coins stay", x.count(7), 1);
    }

    private static void promise13() {
        LosersBooks x = Check.realm("sc7;ks8;ks9;f");
        due("teach(0)", x.teach(0), 9);
        due("coins", x.count(7), 4);
        due("teach(0) at nine", x.teach(0), -1);
        due("teach(1) at nine", x.teach(1), -1);
        due("teach(2)", x.teach(2), -1);
        due("coins", x.count(7), 4);
        x = Check.realm("sc5;k;k;f");
        due("teach(1)", x.teach(1), 4);
        due("teach(1) by two coins", x.teach(1), -1);
        x.give(1);
        due("teach(1) by three coins", x.teach(1), 5);
        due("coins", x.count(7), 0);
    }

    private static void promise14() {
        LosersBooks x = Check.realm("sc11;kb1;kb9;f");
        due("swear(0)", x.swear(0), 0);
        due("coins", x.count(7), 7);
        due("swear(0) without bias", x.swear(0), -1);
        due("swear(2)", x.swear(2), -1);
        due("swear(1)", x.swear(1), 8);
        due("swear(1) by three coins", x.swear(1), -1);
        x.give(1);
        due("swear(1) by four coins", x.swear(1), 7);
        due("coins", x.count(7), 0);
        due("kingdom(1, 1)", x.kingdom(1, 1), 7);
    }

    private static void promise15() {
        LosersBooks x = Check.realm("sw0;km30;km20;km10;f;fb2;fa1b2");
        due("burn(0) of none", x.burn(0), -1);
        passYears(x, 3);
        due("pages", x.count(8), 3);
        due("burn(3)", x.burn(3), -1);
        due("burn(-1)", x.burn(-1), -1);
        due("burn(1)", x.burn(1), 2);
        due("the one ahead stays", x.page(0, 0), 0);
        due("the one behind moves up", x.page(1, 0), 2);
        due("pages of 2", x.kingdom(2, 4), 1);
        due("burn(1)", x.burn(1), 1);
        due("pages of 2", x.kingdom(2, 4), 0);
        due("burn(0)", x.burn(0), 0);
        due("page(0, 0)", x.page(0, 0), -1);
        due("undo()", x.undo(), 5);
        due("the page is there again", x.page(0, 1), 1);
    }

    private static void promise16() {
        LosersBooks x = Check.realm("sc98;k;k;f");
        due("give(0)", x.give(0), -1);
        due("give(51)", x.give(51), -1);
        due("give(-1)", x.give(-1), -1);
        due("give(1)", x.give(1), 99);
        due("give(50)", x.give(50), 149);
        for (int i = 0; i < 17; i++) {
            due("give(50)", x.give(50), 199 + 50 * i);
        }
        due("coins", x.count(7), 999);
        due("give(1) above 999", x.give(1), -1);
        x.undo();
        due("give(50) up to 999", x.give(50), 999);
        due("give(1) without a realm", new LosersBooks().give(1), -1);
        due("give(greatest)", x.give(Integer.MAX_VALUE), -1);
    }

    /** The draws of seed 1, worked out apart. */
    private static void promise17() {
        LosersBooks x = Check.realm("sw1;km9;km8;km7;f;fa1b2;fa2b0");
        due("years(0, 1)", x.years(0, 1), -1);
        due("years(31, 1)", x.years(31, 1), -1);
        due("years(-1, 1)", x.years(-1, 1), -1);
        due("years(1, 1) without a realm", new LosersBooks().years(1, 1), -1);
        due("years(30, 5)", x.years(30, 5), 30);
        due("thirty acts", x.count(12), 30);
        due("years(1, -1)", x.years(1, -1), 31);
        byHand(0, 12345L, 12);
        byHand(2, -987654321L, 25);
        byHand(9, 42L, 30);
    }

    /** Draws, holds and might by java.math, against what years does. */
    private static void byHand(int intrigue, long seed, int n) {
        LosersBooks x = Check.realm("sw0c0;km12;km11;km10;km9;f");
        x.intrigue(intrigue);
        java.math.BigInteger round = java.math.BigInteger.ONE.shiftLeft(64);
        java.math.BigInteger at = java.math.BigInteger.valueOf(seed).mod(round);
        int[] might = {12, 11, 10, 9};
        int[] holds = new int[4];
        int[] draws = new int[4 * n];
        for (int i = 0; i < draws.length; i++) {
            at = at.multiply(new java.math.BigInteger("6364136223846793005"))
                .add(new java.math.BigInteger("1442695040888963407")).mod(round);
            draws[i] = at.shiftRight(33).intValueExact();
        }
        int next = 0;
        for (int i = 0; i < n; i++) {
            if (draws[next++] % 10 < intrigue) {
                holds[draws[next++] % 4] ^= 1;
            }
            if (draws[next++] % 10 >= 7) {
                int grows = draws[next++] % 4;
                might[grows] = Math.min(30, might[grows] + 2);
            }
        }
        due("years(" + n + ", " + seed + ")", x.years(n, seed), n);
        for (int k = 0; k < 4; k++) {
            due("might of " + k, x.kingdom(k, 0), might[k]);
            due("whether " + k + " holds back", x.kingdom(k, 5), holds[k]);
        }
        due("coins are not spent", x.count(7) >= 0, true);
    }

    private static void promise18() {
        LosersBooks x = Check.realm("sc30;km30;k;f");
        due("undo() of none", x.undo(), -1);
        due("undo() without a realm", new LosersBooks().undo(), -1);
        String[] before = new String[8];
        before[0] = counts(x);
        x.year();
        before[1] = counts(x);
        x.hold(1);
        x.arm(1);
        x.teach(1);
        x.swear(1);
        x.burn(0);
        before[6] = counts(x);
        x.give(3);
        due("acts", x.count(12), 7);
        due("refused acts do not count", x.burn(0) + x.arm(0) + x.hold(9) + x.give(0) + x.years(0, 0), -5);
        due("acts", x.count(12), 7);
        due("undo()", x.undo(), 6);
        due("as ahead of give", counts(x).equals(before[6]), true);
        due("undo() of burn", x.undo(), 5);
        due("the page", x.page(0, 1), 1);
        due("undo() of swear", x.undo(), 4);
        due("bias", x.kingdom(1, 1), 2);
        due("undo() of teach", x.undo(), 3);
        due("style", x.kingdom(1, 2), 4);
        due("undo() of arm", x.undo(), 2);
        due("might", x.kingdom(1, 0), 7);
        due("undo() of hold", x.undo(), 1);
        due("as ahead of hold", counts(x).equals(before[1]), true);
        due("undo() of year", x.undo(), 0);
        due("as ahead of year", counts(x).equals(before[0]), true);
        due("might", x.kingdom(1, 0), 8);
        due("style", x.kingdom(1, 2), 3);
        due("wins", x.kingdom(0, 3), 0);
        due("undo() of none", x.undo(), -1);
        for (int i = 0; i < 41; i++) {
            x.give(1);
        }
        due("forty acts at most", x.count(12), 40);
        for (int i = 39; i >= 0; i--) {
            due("undo()", x.undo(), i);
        }
        due("undo() of none", x.undo(), -1);
        due("the first of 41 stays", x.count(7), 31);
        undoneLog();
    }

    private static void undoneLog() {
        LosersBooks x = Check.realm("sw0;km30;km10;km5;f;fa1b2;fa2b0");
        for (int i = 0; i < 2; i++) {
            x.years(30, i);
        }
        int oldest = x.log(59, 0);
        int page = x.page(0, 0);
        x.years(2, 9);
        due("the log", x.count(11), 60);
        due("the oldest", x.log(59, 0), (oldest + 2) % 3);
        x.undo();
        due("undo()", x.undo(), 38);
        due("the oldest line is there again", x.log(59, 0), oldest);
        due("the oldest page is there again", x.page(0, 0), page);
        due("the year", x.count(6), 60);
    }

    private static void promise19() {
        LosersBooks x = Check.realm(THREE);
        due("log(0, 0) of none", x.log(0, 0), -1000000);
        passYears(x, 2);
        int[][] want = {{1, 1, 10}, {0, 1, 5}};
        for (int i = 0; i < 2; i++) {
            for (int what = 0; what < 3; what++) {
                due("log(" + i + ", " + what + ")", x.log(i, what), want[i][what]);
            }
        }
        due("log(2, 0)", x.log(2, 0), -1000000);
        due("log(-1, 0)", x.log(-1, 0), -1000000);
        due("log(0, 3)", x.log(0, 3), -1000000);
        due("log(0, -1)", x.log(0, -1), -1000000);
        x = Check.realm("k;k;f");
        x.year();
        due("drawn: field", x.log(0, 0), 0);
        due("drawn: beaten", x.log(0, 1), -1);
        due("drawn: told", x.log(0, 2), -1);
        for (int i = 0; i < 60; i++) {
            x.year();
        }
        due("sixty at most", x.count(11), 60);
        due("log(59, 0)", x.log(59, 0), 0);
        due("log(60, 0)", x.log(60, 0), -1000000);
    }

    private static void promise20() {
        LosersBooks x = new LosersBooks();
        due("step(0, 0, 0) of none", x.step(0, 0, 0), -1000000);
        Check.text(x, 2, "y; h2 ;a 0;t9");
        int[][] want = {{0, -1}, {1, 2}, {2, 0}, {3, 9}};
        for (int i = 0; i < 4; i++) {
            due("step(0, " + i + ", 0)", x.step(0, i, 0), want[i][0]);
            due("step(0, " + i + ", 1)", x.step(0, i, 1), want[i][1]);
        }
        int[][] wrong = {{1, 0, 0}, {-1, 0, 0}, {0, 4, 0}, {0, -1, 0}, {0, 0, 2}, {0, 0, -1}};
        for (int[] one : wrong) {
            due("step(" + one[0] + ", " + one[1] + ", " + one[2] + ")", x.step(one[0], one[1], one[2]), -1000000);
        }
    }

    private static void promise21() {
        LosersBooks x = new LosersBooks();
        Check.text(x, 2, "y;h0;a1;t1;y");
        due("run(0, 0) without a realm", x.run(0, 0), -1000000);
        Check.text(x, 0, "sc4;km9s8;km1s8;f");
        String then = counts(x);
        due("run(0, 0)", x.run(0, 0), 3);
        due("run(0, 1)", x.run(0, 1), 1);
        x.give(1);
        due("teach can't be: style is nine by then", x.run(0, 0), 3);
        x.undo();
        due("run changes nothing", counts(x).equals(then), true);
        due("nor whom it holds", x.kingdom(0, 5), 0);
        due("run(1, 0)", x.run(1, 0), -1000000);
        due("run(-1, 0)", x.run(-1, 0), -1000000);
        due("run(0, 2)", x.run(0, 2), -1000000);
        due("run(0, -1)", x.run(0, -1), -1000000);
        Check.text(x, 2, "y;y;h0;h0;y;a1");
        due("run(1, 0) when all can be", x.run(1, 0), -1);
        due("run(1, 1)", x.run(1, 1), 3);
        Check.text(x, 2, "h2;y");
        due("a kingdom that is not there", x.run(2, 0), 0);
        due("no page then", x.run(2, 1), 0);
        Check.text(x, 2, "a0;a0;y;a0;y;y");
        due("the coins end", x.run(3, 0), 3);
        due("a page brings one coin", x.run(3, 1), 1);
    }

    private static void promise22() {
        LosersBooks x = new LosersBooks();
        Check.text(x, 2, "y;a1;y;h1;t7;y");
        due("perform(0) without a realm", x.perform(0), -1);
        Check.text(x, 0, "sc4;km9s8;km1s3;f");
        due("perform(1)", x.perform(1), -1);
        due("perform(-1)", x.perform(-1), -1);
        due("perform(0)", x.perform(0), 4);
        due("acts", x.count(12), 4);
        due("the year", x.count(6), 2);
        due("coins", x.count(7), 4);
        due("held", x.kingdom(1, 5), 1);
        due("undo()", x.undo(), 3);
        due("held", x.kingdom(1, 5), 0);
        Check.text(x, 2, "h3");
        due("perform(1) of nothing", x.perform(1), 0);
        Check.text(x, 2, "h1;h0");
        due("perform(2) of all", x.perform(2), 2);
        due("acts", x.count(12), 5);
    }

    private static void promise23() {
        LosersBooks x = Check.realm("sw0;km9;km7;km30;fg9;fa2b1g3;fa1b0g1");
        due("force(0, 0)", x.force(0, 0), 18);
        due("force(1, 0)", x.force(1, 0), 7);
        due("force(2, 0)", x.force(2, 0), -1);
        due("force(2, 1)", x.force(2, 1), 33);
        due("force(1, 2)", x.force(1, 2), 8);
        due("force(0, 2)", x.force(0, 2), 9);
        due("force(3, 0)", x.force(3, 0), -1);
        due("force(0, 3)", x.force(0, 3), -1);
        due("force(-1, 0)", x.force(-1, 0), -1);
        due("force(0, -1)", x.force(0, -1), -1);
        x.hold(2);
        due("force by half, cut", x.force(2, 1), 16);
        x.hold(2);
        x.year();
        due("one win is no half yet", x.force(0, 0), 18);
        passYears(x, 3);
        due("wins of 0", x.kingdom(0, 3), 3);
        due("three wins take one", x.force(0, 0), 17);
        due("in every field", x.force(0, 2), 8);
    }

    private static void worthIs(String law, int want) {
        // The first: might 9, ground 4, style 6; 3 pages, 0 wins, year 6.
        LosersBooks x = Check.realm("sw0;km9s3;km1;fg4;fg4;fg4;fg4;fg4;fg4");
        x.hold(0);
        Check.text(x, 1, "y:p<3?1;y:3");
        Check.text(x, 1, law);
        Check.text(x, 1, "y:g<1?1");
        x.law(2);
        passYears(x, 3);
        Check.text(x, 1, "y:1");
        x.law(3);
        x.hold(1);
        passYears(x, 3);
        x.hold(0);
        due("pages", x.kingdom(0, 4), 3);
        due("wins", x.kingdom(0, 3), 0);
        due("style", x.kingdom(0, 2), 6);
        due("the year", x.count(6), 6);
        due("law(1): " + law, x.law(1), true);
        due("force by " + law, x.force(0, 0), want);
    }

    private static void promise23Laws() {
        worthIs("y:m", 9);
        worthIs("y:g", 4);
        worthIs("y:s", 6);
        worthIs("y:p", 3);
        worthIs("y:w", 0);
        worthIs("y:d", 6);
        worthIs("y:61", 60);
        worthIs("y:60", 60);
        worthIs("y:3-4", 0);
        worthIs("y:10-4-3", 3);
        worthIs("y:10-[4-3]", 9);
        worthIs("y:2+3*4", 14);
        worthIs("y:[2+3]*4", 20);
        worthIs("y:40/7/2", 2);
        worthIs("y:7/2*2", 6);
        worthIs("y:10+[0-7]/2", 7);
        worthIs("y:5+7/0", 5);
        worthIs("y:5+0/0", 5);
        worthIs("y:9999*9999/9999", 60);
        worthIs("y:9999*9999-9999*99-9999", 102 > 60 ? 60 : 102);
        worthIs("y:9999*9999-[9999*99+9999]-80", 20);
        worthIs("y:[0-9999*9999]+[9999*99+9999]+142", 42);
        worthIs("y:9999*9999*9999*9999-9999*9999", 0);
        worthIs("y:9999*9999+1000-9999*9999", 0);
        worthIs("y:[0-9999]*9999*[0-1]-9999*9999+8", 8);
        worthIs("y:m=9?1;y:2", 1);
        worthIs("y:m<9?1;y:2", 2);
        worthIs("y:m>9?1;y:2", 2);
        worthIs("y:m>8?1;y:2", 1);
        worthIs("y:m<10?1;y:2", 1);
        worthIs("y:m=8?1", 0);
        worthIs("y:m=8?1;y:m=7?2;y:m=9?3;y:4", 3);
        worthIs("y:!m=8?1;y:2", 1);
        worthIs("y:!!m=8?1;y:2", 2);
        worthIs("y:m=9|m=8&m=7?1;y:2", 1);
        worthIs("y:(m=9|m=8)&m=7?1;y:2", 2);
        worthIs("y:!m=9|m=9?1;y:2", 1);
        worthIs("y:!(m=9|m=9)?1;y:2", 2);
        worthIs("y:m=9&s=6&p=3&w=0&d=6&g=4?7", 7);
        worthIs("y:m+1=g+s?7", 7);
        worthIs("y:(((m=9&(s=6|(s=1)))))?[[[[[[5]]]]]]", 5);
        worthIs("y:m=0|m=1&m=2|m=9?3;y:4", 3);
        worthIs("y:1+1*[1+1*[1+1*[1+1*[1+1*[1+1*[1+1*2]]]]]]", 9);
        worthIs("y:m=0|m=9&(m=0|m=9&(m=0|m=9&(m=0|m=9&(m=0|m=9&(m=0|m=9&m=1+1*9-1)))))?5", 5);
        StringBuilder ones = new StringBuilder("y:[1");
        for (int i = 1; i < 117; i++) {
            ones.append("+1");
        }
        worthIs(ones + "]/4 ", 29);
        StringBuilder clauses = new StringBuilder();
        for (int i = 0; i < 29; i++) {
            clauses.append("y:m<9?1;");
        }
        worthIs(clauses + "y:m=9?17", 17);
        secondHasNoGround();
    }

    private static void secondHasNoGround() {
        LosersBooks x = Check.ruled("km9;km9;fg7;fa1b0g5", "y:m*2+g");
        due("the first", x.force(0, 0), 25);
        due("the second", x.force(1, 0), 18);
        due("the first there", x.force(1, 1), 23);
        due("the second there", x.force(0, 1), 18);
        x.hold(0);
        due("by half, cut", x.force(0, 0), 12);
        Check.text(x, 1, "y:99");
        x.law(1);
        due("bounded, then by half", x.force(0, 0), 30);
    }

    private static void promise24() {
        LosersBooks x = Check.realm("km9;km8;km4;f;fa1b2;fa2b1g4");
        due("wins(0)", x.wins(0), 0);
        due("wins(1)", x.wins(1), 1);
        due("wins(2)", x.wins(2), -1);
        x.hold(1);
        due("wins(1) when 1 holds back", x.wins(1), -1);
        due("wins(2) when 1 holds back", x.wins(2), 2);
        due("wins(3)", x.wins(3), -2);
        due("wins(-1)", x.wins(-1), -2);
        due("wins(0) without a realm", new LosersBooks().wins(0), -2);
    }

    private static void promise25() {
        LosersBooks x = Check.ruled(UNEVEN, MIGHT);
        due("shelf(1, 1)", x.shelf(1, 1), 1);
        due("shelf(1, 30)", x.shelf(1, 30), 30);
        due("shelf(0, 1)", x.shelf(0, 1), -1);
        due("shelf(1, 0)", x.shelf(1, 0), -1);
        due("shelf(1, 31)", x.shelf(1, 31), -1);
        due("shelf(2, 1)", x.shelf(2, 1), -1);
        due("shelf(-1, 1)", x.shelf(-1, 1), -1);
        x.year();
        due("shelf of what it has", x.shelf(1, 1), 0);
        due("shelf(1, 2)", x.shelf(1, 2), 1);
        due("the year stays", x.count(6), 1);
        x = Check.ruled("sw0;km30;km5;f;fa0b1;fa0b1", "y:d<59?1;y:m");
        due("in sixty years", x.shelf(1, 1), 60);
        Check.text(x, 1, "y:d<60?1;y:m");
        x.law(1);
        due("in 61 years", x.shelf(1, 1), -1);
    }

    private static void promise26() {
        LosersBooks x = Check.realm(THREE);
        due("scheme(0, 3, 0)", x.scheme(0, 3, 0), 1);
        due("scheme(0, 3, 1)", x.scheme(0, 3, 1), 2);
        x.hold(1);
        x.hold(2);
        due("these alone", x.scheme(2, 1, 0), 0);
        due("scheme(2, 1, 1)", x.scheme(2, 1, 1), 0);
        due("nothing changed", x.kingdom(0, 5) * 100 + x.kingdom(1, 5) * 10 + x.kingdom(2, 5), 11);
        due("scheme(3, 1, 0)", x.scheme(3, 1, 0), -1);
        due("scheme(-1, 1, 0)", x.scheme(-1, 1, 0), -1);
        due("scheme(0, 0, 0)", x.scheme(0, 0, 0), -1);
        due("scheme(0, 21, 0)", x.scheme(0, 21, 0), -1);
        due("scheme(0, 1, 2)", x.scheme(0, 1, 2), -1);
        due("scheme(0, 1, -1)", x.scheme(0, 1, -1), -1);
        due("scheme without a realm", new LosersBooks().scheme(0, 1, 0), -1);
        x = Check.ruled("sw0;km8;km8;km8;fa1b0;fa2b0", MIGHT);
        due("0 alone holds back", x.scheme(0, 20, 0), 1);
        due("pages of twenty years", x.scheme(0, 20, 1), 20);
        due("pages of 1", x.scheme(1, 20, 0), 2);
        x = Check.realm("sw0;km10;km5;f");
        due("0 is beaten only if it holds back less than half", x.scheme(0, 1, 0), 0);
        due("a draw is no page", x.scheme(0, 1, 1), 0);
        x = Check.ruled("sw0;km8;km8;km8;km8;fa3b0;fa3b1;fa3b2", "y:m");
        due("one alone is the fewest", x.scheme(3, 3, 0), 8);
        due("the least of them", x.scheme(0, 3, 0), 1);
    }

    private static void promise27() {
        LosersBooks x = Check.realm(THREE);
        due("peace()", x.peace(), 3);
        due("peace() without a realm", new LosersBooks().peace(), -1);
        due("the year stays", x.count(6), 0);
        due("drawn at once", Check.realm("k;k;f").peace(), 1);
        due("never", Check.ruled(UNEVEN, MIGHT).peace(), -1);
        due("in sixty years", Check.ruled(UNEVEN, "y:d<59?m;y:1").peace(), 60);
        due("in 61 years", Check.ruled(UNEVEN, "y:d<60?m;y:1").peace(), -1);
    }

    private static void promise28() {
        LosersBooks x = Check.realm("k;k;f;f;f;f;f;f;f;f");
        for (int f = 0; f < 8; f++) {
            due("last(" + f + ")", x.last(f), f + 1);
        }
        due("last(8)", x.last(8), -1);
        due("last(-1)", x.last(-1), -1);
        passYears(x, 11);
        due("last(3)", x.last(3), 1);
        due("last(2)", x.last(2), 8);
        due("last(7)", x.last(7), 5);
    }

    private static void promise29() {
        LosersBooks x = Check.realm("k;k;k;f;f");
        due("told(3, 0, 1)", x.told(3, 0, 1), -1);
        due("told(-1, 0, 1)", x.told(-1, 0, 1), -1);
        due("told(0, 2, 1)", x.told(0, 2, 1), -1);
        due("told(0, -1, 1)", x.told(0, -1, 1), -1);
        due("told(0, 0, 30)", x.told(0, 0, 30), -1);
        due("told(0, 0, -1)", x.told(0, 0, -1), -1);
        due("told(0, 0, 0)", x.told(0, 0, 0), 1);
        due("told(2, 0, 29), who does not meet there", x.told(2, 0, 29), 2);
        for (int i = 3; i <= 10; i++) {
            due("the same again", x.told(1, 1, 5), i);
        }
        due("an eleventh", x.told(1, 1, 5), -1);
        due("count(10)", x.count(10), 10);
        due("it is no act", x.count(12), 0);
    }

    private static void promise30() {
        LosersBooks x = Check.realm("k;k;k;f;f");
        due("all may be", x.biases(0, -1), 10);
        due("the last", x.biases(0, 9), 9);
        due("biases(0, 10)", x.biases(0, 10), -1);
        due("biases(0, -2)", x.biases(0, -2), -1);
        due("biases(3, -1)", x.biases(3, -1), -1);
        due("biases(-1, -1)", x.biases(-1, -1), -1);
        x.told(0, 0, 27);
        due("at least 7", x.biases(0, -1), 3);
        due("the first", x.biases(0, 0), 7);
        due("the third", x.biases(0, 2), 9);
        due("no fourth", x.biases(0, 3), -1);
        x.told(1, 1, 3);
        due("at most 3", x.biases(1, -1), 4);
        due("the first", x.biases(1, 0), 0);
        x.told(0, 1, 6);
        due("bound to one another", x.biases(0, -1), 0);
        due("and so for all", x.biases(2, -1), 0);
        x = Check.realm("k;k;k;f;f");
        x.told(0, 0, 9);
        x.told(1, 0, 4);
        x.told(1, 1, 12);
        x.told(2, 1, 16);
        due("0 by 1", x.biases(0, -1), 5);
        due("0 is 5 above 1", x.biases(0, 0), 5);
        due("1 by 0", x.biases(1, -1), 5);
        due("2 is 4 above 1", x.biases(2, 0), 4);
        due("2", x.biases(2, 4), 8);
        x.told(2, 0, 9);
        due("a ring that does not close", x.biases(1, -1), 0);
    }

    private static void promise31() {
        LosersBooks x = Check.realm("k;k;f;f;f");
        due("all may be", x.truths(0, -1), 21);
        due("the last", x.truths(0, 20), 20);
        due("truths(0, 21)", x.truths(0, 21), -1);
        due("truths(0, -2)", x.truths(0, -2), -1);
        due("truths(3, -1)", x.truths(3, -1), -1);
        due("truths(-1, -1)", x.truths(-1, -1), -1);
        x.told(0, 0, 26);
        due("20 at most", x.truths(0, -1), 4);
        due("the first", x.truths(0, 0), 17);
        due("the last", x.truths(0, 3), 20);
        due("no more", x.truths(0, 4), -1);
        x.told(0, 1, 8);
        due("bias 6 .. 8", x.truths(1, -1), 3);
        due("the first", x.truths(1, 0), 0);
        due("bias 6 .. 8", x.truths(0, -1), 3);
        due("the first", x.truths(0, 0), 18);
        due("another one", x.truths(2, -1), 21);
        x.told(1, 1, 29);
        due("nothing fits", x.truths(0, -1) + x.truths(1, -1) + x.truths(2, -1), 0);
        due("no first", x.truths(0, 0), -1);
    }

    private static void promise32() {
        LosersBooks x = Check.realm("k;k;k;k;f;f");
        due("read(0) of all alike", x.read(0), 0);
        due("read(2)", x.read(2), -1);
        due("read(-1)", x.read(-1), -1);
        due("read without a realm", new LosersBooks().read(0), -1);
        x.told(0, 0, 5);
        // 0 tells 5 for sure; 1 tells a number of one of 6 truths and one of 10 biases.
        due("read(0)", x.read(0), 1);
        x.told(1, 0, 7);
        due("read(0)", x.read(0), 2);
        x.told(2, 1, 29);
        // 2 has bias 9 for sure: each of its 6 numbers leaves 10 biases of 3; what 3 tells leaves 6 at worst.
        due("read(0): 3 rather than 2", x.read(0), 3);
        x.told(3, 0, 8);
        due("read(0): 2 alone is not bound", x.read(0), 2);
        due("read(1): truth 20 for sure, 2 is bound", x.read(1), 0);
        x.told(2, 1, 28);
        due("nothing fits", x.read(0), -1);
        narrowRead();
    }

    /** Fewer biases leave more by the number that most let it tell. */
    private static void narrowRead() {
        LosersBooks x = Check.realm("k;k;f;f;f");
        x.told(0, 0, 28);
        x.told(1, 1, 27);
        // 0 has bias 8 or 9, 1 has 7 to 9; truths of field 2 are free: every number is told by all biases alike.
        due("read(2)", x.read(2), 0);
        // Field 0 has truth 19 or 20, field 1 has 18 to 20: of field 0, 1 tells 27 most often, by two of six.
        due("read(0)", x.read(0), 1);
        due("read(1)", x.read(1), 0);
    }

    private static void promise33() {
        LosersBooks x = Check.realm("km9s8;km7s2;km9s9;f;fa2b0");
        int[][] want = {{4, 4}, {9, 4}, {4, 3}, {3, 3}};
        for (int i = 0; i < 4; i++) {
            for (int what = 0; what < 2; what++) {
                due("game(0, " + (i & 1) + ", " + (i >> 1) + ", " + what + ")", x.game(0, i & 1, i >> 1, what), want[i][what]);
            }
        }
        due("drawn", x.game(1, 0, 0, 0), 0);
        due("drawn", x.game(1, 0, 0, 1), 0);
        due("drawn, both hold back", x.game(1, 1, 1, 0), -1);
        due("drawn, both hold back", x.game(1, 1, 1, 1), -1);
        due("style 9 and 2, less 1", x.game(1, 1, 0, 0), 10);
        x.hold(0);
        due("whether it holds back now is nothing to it", x.game(0, 0, 0, 0), 4);
        int[][] wrong = {{2, 0, 0, 0}, {-1, 0, 0, 0}, {0, 2, 0, 0}, {0, -1, 0, 0}, {0, 0, 2, 0}, {0, 0, -1, 0}, {0, 0, 0, 2},
            {0, 0, 0, -1}};
        for (int[] one : wrong) {
            due("game of wrong ones", x.game(one[0], one[1], one[2], one[3]), -1000000);
        }
    }

    private static void promise34() {
        LosersBooks x = Check.realm("km9s8;km7s2;km9s9;f;fa2b0");
        due("rests(0, -1)", x.rests(0, -1), 1);
        due("rests(0, 0)", x.rests(0, 0), 10);
        due("rests(0, 1)", x.rests(0, 1), -1);
        due("rests(0, -2)", x.rests(0, -2), -1);
        // Drawn both alike: who holds back alone is beaten and has the last chapter.
        due("rests(1, -1)", x.rests(1, -1), 2);
        due("rests(1, 0)", x.rests(1, 0), 1);
        due("rests(1, 1)", x.rests(1, 1), 10);
        due("rests(1, 2)", x.rests(1, 2), -1);
        due("rests(2, -1)", x.rests(2, -1), -1);
        due("rests(-1, -1)", x.rests(-1, -1), -1);
        // Alike is a rest, too: the first has 4 if it wins, and 3 and 2 less 1 if it is beaten.
        x = Check.realm("km9s3;km7s3;f");
        due("rests when alike", x.rests(0, -1), 2);
        due("the first", x.rests(0, 0), 0);
        due("the second", x.rests(0, 1), 10);
        x = Check.realm("km7s3;km9s3;f");
        due("rests when alike", x.rests(0, -1), 2);
        due("the first", x.rests(0, 0), 0);
        due("the second", x.rests(0, 1), 1);
        // Nobody ever has more by holding back.
        x = Check.realm("km0s9;km0s9;f");
        due("rests(0, -1)", x.rests(0, -1), 1);
        due("rests(0, 0)", x.rests(0, 0), 0);
        // Styles of 1: beaten 3, less 1; a win is worth more. No rest at 11: one would rather win.
        x = Check.ruled("km2s1;km2s1;f", "y:m");
        due("rests of styles 1", x.rests(0, -1), 2);
        due("the first", x.rests(0, 0), 1);
    }

    private static void promise35() {
        LosersBooks x = Check.realm("km9s8;km7s2;f;fa1b0");
        due("odds(0, 50, 0)", x.odds(0, 50, 0), 500000000);
        due("odds(0, 100, 100)", x.odds(0, 100, 100), 0);
        due("odds(0, 100, 0)", x.odds(0, 100, 0), 1000000000);
        due("odds(0, 33, 33)", x.odds(0, 33, 33), 221100000);
        due("odds(0, 0, 0)", x.odds(0, 0, 0), 0);
        due("odds(1, 0, 0)", x.odds(1, 0, 0), 1000000000);
        due("odds(1, 1, 99)", x.odds(1, 1, 99), 1000000000 - 980100000);
        due("odds(1, 100, 1)", x.odds(1, 100, 1), 1000000000);
        due("odds(2, 0, 0)", x.odds(2, 0, 0), -1);
        due("odds(-1, 0, 0)", x.odds(-1, 0, 0), -1);
        due("odds(0, 101, 0)", x.odds(0, 101, 0), -1);
        due("odds(0, -1, 0)", x.odds(0, -1, 0), -1);
        due("odds(0, 0, 101)", x.odds(0, 0, 101), -1);
        due("odds(0, 0, -1)", x.odds(0, 0, -1), -1);
        due("drawn is not beaten", Check.realm("k;k;f").odds(0, 50, 50), 250000000);
    }

    private static void promise36() {
        LosersBooks x = Check.realm("sw0;km30;km20;km10;f;fb2;fa1b2");
        due("no pages", x.shares(1, 999), 0);
        passYears(x, 3);
        due("shares(0, 999)", x.shares(0, 999), 0);
        due("shares(1, 100)", x.shares(1, 100), 33);
        due("shares(2, 100)", x.shares(2, 100), 66);
        due("shares(2, 999)", x.shares(2, 999), 666);
        due("shares(2, 0)", x.shares(2, 0), 0);
        due("shares(2, 1000)", x.shares(2, 1000), -1);
        due("shares(2, -1)", x.shares(2, -1), -1);
        due("shares(3, 1)", x.shares(3, 1), -1);
        due("shares(-1, 1)", x.shares(-1, 1), -1);
    }

    private static void promise37() {
        LosersBooks x = Check.realm("sw0;km5b3s1;km9b2s7;km9b3s7;fa1b0n4;fa2b0n9;fa1b0n9");
        int[] want = {1, 0, 1, 0, 0, 0, 0, 0, 1, 0, 0, 0, 7};
        for (int what = 0; what < want.length; what++) {
            due("all(" + what + ")", x.all(what), want[what]);
        }
        due("all(13)", x.all(13), -1);
        due("all(-1)", x.all(-1), -1);
        due("all(10) without a realm", new LosersBooks().all(10), -1);
        passYears(x, 2);
        int[] then = {1, 0, 1, 1, 0, 6, 1, 2, 1, 6, 2, 0, 4};
        for (int what = 0; what < then.length; what++) {
            due("later all(" + what + ")", x.all(what), then[what]);
        }
        x.arm(2);
        x.swear(0);
        x.teach(2);
        due("mightiest", x.all(0), 2);
        due("biased", x.all(1), 2);
        due("styled", x.all(2), 2);
        due("the lie of pages stays as it was told", x.all(9), 6);
        x.burn(0);
        due("silent", x.all(12), 5);
        due("the lie of what is kept", x.all(9), 3);
        x.burn(0);
        due("never", x.all(5), 6);
        due("always", x.all(6), 0);
        due("dumb", x.all(7), 2);
    }

    private static void promise37Pages() {
        // Both have the same bias and are beaten in turns, as they hold back.
        LosersBooks x = Check.realm("sw0;k;k;fn3;fn4");
        x.hold(0);
        passYears(x, 2);
        due("one kingdom alone tells", x.all(11), 0);
        due("never", x.all(5), 2);
        x.hold(0);
        x.hold(1);
        x.year();
        due("two tell the same of field 0", x.all(11), 1);
        due("never", x.all(5), 0);
        due("always", x.all(6), 3);
        due("victor: 1 has two wins", x.all(3), 1);
        due("writer: 0 has two pages", x.all(4), 0);
        x.swear(1);
        x.year();
        due("not the same of field 1", x.all(11), 1);
        due("the lie", x.all(9), 7);
        due("silent", x.all(12), 0);
        x.burn(0);
        due("it is burnt", x.all(11), 0);
        due("next", x.all(10), 0);
    }

    private static void promise38() {
        LosersBooks x = Check.realm(THREE);
        due("page(0, 0) of none", x.page(0, 0), -1);
        x.hold(1);
        passYears(x, 2);
        int[][] want = {{0, 1, 5}, {1, 1, 10}};
        for (int i = 0; i < 2; i++) {
            for (int what = 0; what < 3; what++) {
                due("page(" + i + ", " + what + ")", x.page(i, what), want[i][what]);
            }
        }
        due("page(2, 0)", x.page(2, 0), -1);
        due("page(-1, 0)", x.page(-1, 0), -1);
        due("page(0, 3)", x.page(0, 3), -1);
        due("page(0, -1)", x.page(0, -1), -1);
    }

    private static void promise39() {
        LosersBooks x = Check.realm("k;k;k;f;fa1b0;fa1b2;fb2");
        due("wars(0, 1)", x.wars(0, 1), 3);
        due("wars(1, 0)", x.wars(1, 0), 3);
        due("wars(1, 2)", x.wars(1, 2), 4);
        due("wars(2, 0)", x.wars(2, 0), 8);
        due("wars(1, 1)", x.wars(1, 1), 0);
        due("wars(0, 3)", x.wars(0, 3), -1);
        due("wars(3, 3)", x.wars(3, 3), -1);
        due("wars(-1, 0)", x.wars(-1, 0), -1);
    }

    private static void promise40And41() {
        LosersBooks x = Check.realm("sc50;km30b5;k;f");
        due("back() of none", x.back(), -1);
        x.hold(1);
        x.year();
        due("image()", x.image(), 1);
        due("it is no act", x.count(12), 2);
        String then = counts(x).replaceAll("2 $", "0 ");
        x.hold(1);
        x.arm(1);
        x.teach(1);
        x.swear(0);
        x.burn(0);
        x.years(5, 3);
        x.told(0, 0, 9);
        due("back()", x.back(), 1);
        due("as it was, but for what was told", counts(x).equals(then.replaceFirst(" 0 1 0 $", " 1 1 0 ")), true);
        due("held", x.kingdom(1, 5), 1);
        due("might", x.kingdom(1, 0), 7);
        due("style", x.kingdom(1, 2), 4);
        due("bias", x.kingdom(0, 1), 5);
        due("wins", x.kingdom(0, 3), 1);
        due("page", x.page(0, 2), 9);
        due("log", x.log(0, 1), 1);
        due("undo()", x.undo(), -1);
        x.year();
        due("undo() behind back", x.undo(), 0);
        x.year();
        x.year();
        due("back() again", x.back(), 1);
        x.year();
        due("another image()", x.image(), 2);
        x.year();
        due("back() to it", x.back(), 2);
        due("a new realm", Check.text(x, 0, "k;k;f"), 2);
        due("no image of it", x.back(), -1);
        due("its image()", x.image(), 0);
        due("back()", x.back(), 0);
    }

    private static void promise42() {
        LosersBooks x = Check.realm("sc50;km30;k;k;f;fa2b1");
        Check.text(x, 1, "y:m");
        Check.text(x, 1, "y:m");
        Check.text(x, 2, "y");
        Check.feed(x, "abc");
        x.law(1);
        x.intrigue(5);
        x.told(0, 0, 9);
        x.told(0, 0, 9);
        x.told(0, 0, 9);
        passYears(x, 3);
        x.hold(0);
        int[] want = {3, 2, 2, 1, 3, 1, 3, 53, 3, 5, 3, 3, 4};
        for (int what = 0; what < want.length; what++) {
            due("count(" + what + ")", x.count(what), want[what]);
        }
        due("count(13)", x.count(13), -1000000);
        due("count(-1)", x.count(-1), -1000000);
    }
}
