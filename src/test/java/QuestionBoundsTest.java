/** Part 3 of the terms and promises 20 to 39: sentence by sentence, the last that is taken and the first that is refused. */
public final class QuestionBoundsTest {
    private static final int HIDDEN = -1000000;
    private static final int[] FAR = {Integer.MIN_VALUE, Integer.MAX_VALUE};
    /** By the ground alone the first always wins, whose might soever grows. */
    private static final String UNEVEN = "sw0;km30b4;km5b1;fg9";
    private static final String GROUND = "y:g";
    private static final String MIGHT = "y:m";

    private QuestionBoundsTest() {
    }

    public static void main(String[] args) {
        stepsOfCampaigns();
        behindHowMany();
        stepsThatCantBe();
        coinsOnTheWay();
        noYearBehind999InRun();
        pagesOfARun();
        doneUpToThere();
        forceOfTheTwo();
        whoWouldWin();
        shelfWithinSixty();
        shelfOfOneToThirty();
        shelfBehind999();
        schemeOfOneToTwenty();
        schemeOfSeveral();
        schemeOfWhatIsKept();
        peaceWithinSixty();
        lastOfAField();
        tenTold();
        toldWithinBounds();
        biasesAndTruthsOfOne();
        biasesAndTruthsOfMore();
        readForAField();
        oneFromAnother();
        toldOfEach();
        sameByTwo();
        silentFields();
        gameOfTwo();
        restsOfTwo();
        oddsByHundredths();
        sharesOfPages();
        ofSeveralTheLowest();
        neverAndAlways();
        lieAndBloodiest();
        pagesByNumber();
        warsOfTwo();
        counts();
        Check.end();
    }

    private static void due(String call, long got, long want) {
        Check.due(call, got, want);
    }

    private static void due(String call, boolean got, boolean want) {
        Check.due(call, got, want);
    }

    private static void passYears(LosersBooks x, int n) {
        for (int i = 0; i < n; i++) {
            x.year();
        }
    }

    /** By the ground the first wins every year; that many years have gone by. */
    private static LosersBooks late(int year) {
        LosersBooks x = Check.ruled(UNEVEN, GROUND);
        x.intrigue(0);
        for (int left = year; left > 0; left -= 30) {
            x.years(Math.min(30, left), left);
        }
        due("the year", x.count(6), year);
        return x;
    }

    // ---- campaigns ----

    private static void stepsOfCampaigns() {
        Check.of("step: 0 what (0 y, 1 h, 2 a, 3 t), 1 its digit (NONE). HIDDEN: no such ones");
        for (int campaigns = 0; campaigns <= 4; campaigns++) {
            LosersBooks x = new LosersBooks();
            for (int i = 0; i < campaigns; i++) {
                Check.text(x, 2, "y;h" + i + ";a9;t0".substring(0, Math.min(6, 3 * i)));
            }
            for (int i = 0; i < campaigns; i++) {
                due("the first's kind", x.step(i, 0, 0), 0);
                due("the first's digit", x.step(i, 0, 1), -1);
                due("the second's kind", x.step(i, 1, 0), 1);
                due("the second's digit", x.step(i, 1, 1), i);
                due("the third's kind", x.step(i, 2, 0), i > 0 ? 2 : HIDDEN);
                due("the third's digit", x.step(i, 2, 1), i > 0 ? 9 : HIDDEN);
                due("the fourth's kind", x.step(i, 3, 0), i > 1 ? 3 : HIDDEN);
                due("the fourth's digit", x.step(i, 3, 1), i > 1 ? 0 : HIDDEN);
                due("step(" + i + ", 4, 0)", x.step(i, 4, 0), HIDDEN);
                due("step(" + i + ", -1, 0)", x.step(i, -1, 0), HIDDEN);
                due("step(" + i + ", 0, 2)", x.step(i, 0, 2), HIDDEN);
                due("step(" + i + ", 0, -1)", x.step(i, 0, -1), HIDDEN);
            }
            due("step(-1, 0, 0)", x.step(-1, 0, 0), HIDDEN);
            due("step(" + campaigns + ", 0, 0)", x.step(campaigns, 0, 0), HIDDEN);
            for (int far : FAR) {
                due("step of a far campaign", x.step(far, 0, 0), HIDDEN);
                due("a far step", x.step(0, far, 0), HIDDEN);
                due("a far what", x.step(0, 0, far), HIDDEN);
            }
        }
    }

    private static LosersBooks planned(String realm, String plan) {
        LosersBooks x = Check.realm(realm);
        due("campaign of " + plan, Check.text(x, 2, plan), 0);
        return x;
    }

    /** Behind how many steps the first is that can't be, as run and perform answer. */
    private static void endsBehind(String realm, String plan, int want, int steps) {
        LosersBooks x = planned(realm, plan);
        due("run(0, 0) of " + plan + " in " + realm, x.run(0, 0), want);
        due("perform(0) of " + plan + " in " + realm, x.perform(0), want == -1 ? steps : want);
        due("acts", x.count(12), want == -1 ? steps : want);
    }

    private static void behindHowMany() {
        Check.of("RUN: behind how many STEPS the first is that can't be (0; NONE: all can be)");
        for (int n = 0; n <= 15; n++) {
            endsBehind("k;k;f", "h0;".repeat(n) + "h2" + ";h1".repeat(15 - n), n, 16);
            endsBehind("k;k;f", "h1" + ";h0".repeat(n), -1, n + 1);
        }
        Check.of("run: PAGES (1). HIDDEN: no such ones, no REALM");
        LosersBooks x = planned("k;k;f", "h0;y");
        due("run(0, 0)", x.run(0, 0), -1);
        due("run(0, 1)", x.run(0, 1), 1);
        for (int wrong : new int[] {-1, 2, FAR[0], FAR[1]}) {
            due("run(0, " + wrong + ")", x.run(0, wrong), HIDDEN);
        }
        for (int wrong : new int[] {-1, 1, FAR[0], FAR[1]}) {
            due("run(" + wrong + ", 0)", x.run(wrong, 0), HIDDEN);
            due("run(" + wrong + ", 1)", x.run(wrong, 1), HIDDEN);
            due("perform(" + wrong + ")", x.perform(wrong), -1);
        }
        x = new LosersBooks();
        Check.text(x, 2, "y");
        due("run(0, 0) without a realm", x.run(0, 0), HIDDEN);
        due("run(0, 1) without a realm", x.run(0, 1), HIDDEN);
        due("perform(0) without a realm", x.perform(0), -1);
    }

    private static void stepsThatCantBe() {
        Check.of("What a STEP tells that is not there: the STEP can't be");
        for (int kingdoms = 2; kingdoms <= 4; kingdoms++) {
            String realm = "k;k" + ";k".repeat(kingdoms - 2) + ";f";
            for (int digit = 0; digit <= 9; digit++) {
                for (String letter : new String[] {"h", "a", "t"}) {
                    endsBehind(realm, "y;" + letter + digit, digit < kingdoms ? -1 : 1, 2);
                }
            }
        }
        Check.of("RUN: ARMS (30 at most; 2 COINS)");
        endsBehind("sc1;k;k;f", "a0", 0, 1);
        endsBehind("sc2;k;k;f", "a0", -1, 1);
        endsBehind("sc3;k;k;f", "a0;a0", 1, 2);
        endsBehind("km29;k;f", "a0", -1, 1);
        endsBehind("km29;k;f", "a0;a0", 1, 2);
        endsBehind("km30;k;f", "a0", 0, 1);
        Check.of("RUN: TAUGHT (9 at most; 3 COINS)");
        endsBehind("sc2;k;k;f", "t0", 0, 1);
        endsBehind("sc3;k;k;f", "t0", -1, 1);
        endsBehind("sc5;k;k;f", "t0;t0", 1, 2);
        endsBehind("ks8;k;f", "t0", -1, 1);
        endsBehind("ks8;k;f", "t0;t0", 1, 2);
        endsBehind("ks9;k;f", "t0", 0, 1);
        endsBehind("ks9;ks9;f", "y;y;h0;h0;t1", 4, 5);
    }

    private static void coinsOnTheWay() {
        Check.of("RUN: what ahead of a STEP was done is so then: COINS, MIGHT, STYLE, who HOLDS BACK");
        endsBehind("sc0;km9;k;f", "y;a1;y", 1, 3);
        endsBehind("sc0;km9;k;f", "y;y;a1;y", -1, 4);
        endsBehind("sc0;km9;k;f", "y;y;t1", 2, 3);
        endsBehind("sc0;km9;k;f", "y;y;y;t1", -1, 4);
        endsBehind("sc0;km9;ks8;f", "y;y;y;t1", 3, 4);
        endsBehind("sw1;km9;km30;f", "a1", 0, 1);
        endsBehind("sw1;km9;km30;f", "h1;a1", 1, 2);
        endsBehind("sw1;km20;km30;f", "h1;y;a1;a1", 3, 4);
        LosersBooks x = planned("sw1;km20;km30;f", "h1;y;h1;y;h0;y");
        due("pages: 1 held back, then 0 was beaten twice", x.run(0, 1), 3);
        x.perform(0);
        due("pages of 1", x.kingdom(1, 4), 1);
        due("pages of 0", x.kingdom(0, 4), 2);
    }

    private static void noYearBehind999InRun() {
        Check.of("YEARS go on behind 999, but not in RUN");
        int[][] cases = {{996, -1, 3}, {997, 3, 2}, {998, 2, 1}, {999, 1, 0}};
        for (int[] one : cases) {
            LosersBooks x = late(one[0]);
            Check.text(x, 2, "h1;y;y;y");
            due("run(0, 0) at " + one[0], x.run(0, 0), one[1]);
            due("run(0, 1) at " + one[0], x.run(0, 1), one[2]);
            due("perform(0) at " + one[0], x.perform(0), one[1] == -1 ? 4 : one[1]);
            due("the year", x.count(6), Math.min(999, one[0] + 3));
        }
    }

    private static void pagesOfARun() {
        Check.of("RUN: how many PAGES are written in its YEARS");
        String sixteen = "y" + ";y".repeat(15);
        LosersBooks x = late(29);
        Check.text(x, 2, sixteen);
        Check.text(x, 2, "h0;h0");
        Check.text(x, 2, "y;h9;y");
        Check.text(x, 2, "h9;y");
        due("sixteen are written, of 45 thirty are kept", x.run(0, 1), 16);
        due("no year", x.run(1, 1), 0);
        due("up to there alone", x.run(2, 1), 1);
        due("none ahead of it", x.run(3, 1), 0);
        x = planned("k;k;f", sixteen);
        due("drawn years", x.run(0, 1), 0);
        due("all of them can be", x.run(0, 0), -1);
    }

    private static void doneUpToThere() {
        Check.of("DO: its STEPS as ACTS, up to there; perform: how many STEPS were done");
        LosersBooks x = planned("sc5;km9;k;f", "y;a1;h0;t1;t1;y");
        due("perform(0)", x.perform(0), 4);
        due("acts", x.count(12), 4);
        due("the year", x.count(6), 1);
        due("coins", x.count(7), 1);
        due("might", x.kingdom(1, 0), 8);
        due("style", x.kingdom(1, 2), 5);
        due("held", x.kingdom(0, 5), 1);
        for (int left = 3; left >= 0; left--) {
            due("undo()", x.undo(), left);
        }
        due("coins", x.count(7), 5);
        due("the year", x.count(6), 0);
        x = planned("k;k;f", "h0" + ";h1".repeat(15));
        for (int i = 1; i <= 3; i++) {
            due("perform(0)", x.perform(0), 16);
            due("forty acts at most", x.count(12), Math.min(40, 16 * i));
        }
        x = planned("k;k;f", "h9;h0");
        x.hold(1);
        due("perform(0) of none", x.perform(0), 0);
        due("acts", x.count(12), 1);
        due("nothing changed", x.kingdom(0, 5), 0);
    }

    // ---- who would win, and what is ahead ----

    private static void forceOfTheTwo() {
        Check.of("FORCE of one of the two in a FIELD now (others have none); force: NONE: no such ones");
        LosersBooks x = Check.realm("km1;km2;km3;km4;f;fa1b2;fa2b3;fa3b0;fa0b2g1;fa1b3g2;fa2b0g3;fa3b1g4");
        int[][] want = {{1, 2, -1, -1}, {-1, 2, 3, -1}, {-1, -1, 3, 4}, {1, -1, -1, 4}, {2, -1, 3, -1}, {-1, 4, -1, 4},
            {1, -1, 6, -1}, {-1, 2, -1, 8}};
        for (int f = 0; f < 8; f++) {
            for (int k = 0; k < 4; k++) {
                due("force(" + k + ", " + f + ")", x.force(k, f), want[f][k]);
            }
        }
        for (int wrong : new int[] {-1, 4, FAR[0], FAR[1]}) {
            due("force(" + wrong + ", 0)", x.force(wrong, 0), -1);
        }
        for (int wrong : new int[] {-1, 8, FAR[0], FAR[1]}) {
            due("force(0, " + wrong + ")", x.force(0, wrong), -1);
        }
        due("force(0, 0) without a realm", new LosersBooks().force(0, 0), -1);
    }

    private static void whoWouldWin() {
        Check.of("wins: Who would WIN there now (NONE: DRAWN). -2: no such FIELD");
        LosersBooks x = Check.realm("km9;km8;km4;f;fa1b2;fa2b1g3;fa2b1g4;fa2b1g5");
        int[] want = {0, 1, 1, -1, 2};
        for (int f = 0; f < want.length; f++) {
            due("wins(" + f + ")", x.wins(f), want[f]);
        }
        x.hold(1);
        int[] then = {0, -1, 2, 2, 2};
        for (int f = 0; f < then.length; f++) {
            due("wins(" + f + ") when 1 holds back", x.wins(f), then[f]);
        }
        for (int wrong : new int[] {-1, 5, FAR[0], FAR[1]}) {
            due("wins(" + wrong + ")", x.wins(wrong), -2);
        }
        due("wins(0) without a realm", new LosersBooks().wins(0), -2);
    }

    private static void shelfWithinSixty() {
        Check.of("SHELF: in how many YEARS (0 .. 60) it has n PAGES or more; NONE: not within 60");
        for (int quiet : new int[] {0, 1, 58, 59, 60, 100}) {
            LosersBooks x = Check.ruled("sw0;km30;km5;f", "y:d<" + quiet + "?1;y:m");
            due("shelf(1, 1) behind " + quiet, x.shelf(1, 1), quiet < 60 ? quiet + 1 : -1);
            due("shelf(1, 2) behind " + quiet, x.shelf(1, 2), quiet < 59 ? quiet + 2 : -1);
            due("shelf(0, 1)", x.shelf(0, 1), -1);
        }
        LosersBooks x = Check.ruled("sw0;km30;km5;f", MIGHT);
        passYears(x, 3);
        due("three at once", x.shelf(1, 3), 0);
        due("two, and more", x.shelf(1, 2), 0);
        due("a fourth", x.shelf(1, 4), 1);
        due("the year stays", x.count(6), 3);
        due("so do the pages", x.count(8), 3);
    }

    private static void shelfOfOneToThirty() {
        Check.of("SHELF of a KINGDOM for n (1 .. 30); NONE: no such KINGDOM, out of bounds");
        LosersBooks x = Check.ruled("sw0;km30;km5;f", MIGHT);
        for (int n = 1; n <= 30; n++) {
            due("shelf(1, " + n + ")", x.shelf(1, n), n);
        }
        for (int wrong : new int[] {0, 31, -1, FAR[0], FAR[1]}) {
            due("shelf(1, " + wrong + ")", x.shelf(1, wrong), -1);
        }
        for (int wrong : new int[] {-1, 2, FAR[0], FAR[1]}) {
            due("shelf(" + wrong + ", 1)", x.shelf(wrong, 1), -1);
        }
        due("shelf(0, 1) without a realm", new LosersBooks().shelf(0, 1), -1);
        Check.of("SHELF: PAGES of a KINGDOM: those that are kept");
        x = Check.ruled("sw0;km30;km9;km5;f;fb2", MIGHT);
        due("fifteen of thirty", x.shelf(1, 15), 29);
        due("never sixteen", x.shelf(1, 16), -1);
        x = Check.ruled("sw0;km30;km9;f", "y:d<1?30-m;y:m");
        x.year();
        due("0 wrote one", x.kingdom(0, 4), 1);
        due("29 of 1", x.shelf(1, 29), 29);
        due("30 of 1, when that one is lost", x.shelf(1, 30), 30);
    }

    private static void shelfBehind999() {
        Check.of("YEARS go on behind 999: SHELF, PEACE, SCHEME");
        LosersBooks x = late(999);
        for (int i = 0; i < 5; i++) {
            x.burn(0);
        }
        due("shelf(1, 30) at 999", x.shelf(1, 30), 5);
        due("scheme(1, 5, 1) at 999", x.scheme(1, 5, 1), 30);
        due("scheme(1, 4, 1) at 999", x.scheme(1, 4, 1), 29);
        due("scheme(0, 20, 1) at 999", x.scheme(0, 20, 1), 0);
        due("peace() at 999", x.peace(), -1);
        Check.text(x, 1, "y:d>1001?0;y:g");
        x.law(1);
        due("peace() when 1002 is drawn", x.peace(), 4);
        due("shelf(1, 28) then", x.shelf(1, 28), 3);
        due("shelf(1, 29) then", x.shelf(1, 29), -1);
        due("the year stays", x.count(6), 999);
    }

    private static void schemeOfOneToTwenty() {
        Check.of("SCHEME for a KINGDOM and n (1 .. 20); NONE: no such ones, out of bounds");
        LosersBooks x = Check.ruled("sw0;km30;km5;f", MIGHT);
        for (int n = 1; n <= 20; n++) {
            due("scheme(1, " + n + ", 0)", x.scheme(1, n, 0), 0);
            due("scheme(1, " + n + ", 1)", x.scheme(1, n, 1), n);
        }
        for (int wrong : new int[] {0, 21, -1, FAR[0], FAR[1]}) {
            due("scheme(1, " + wrong + ", 0)", x.scheme(1, wrong, 0), -1);
        }
        for (int wrong : new int[] {-1, 2, FAR[0], FAR[1]}) {
            due("scheme(" + wrong + ", 1, 0)", x.scheme(wrong, 1, 0), -1);
            due("scheme(1, 1, " + wrong + ")", x.scheme(1, 1, wrong), -1);
        }
        due("scheme(0, 1, 0) without a realm", new LosersBooks().scheme(0, 1, 0), -1);
    }

    private static void schemeOfSeveral() {
        Check.of("SCHEME: so that it has most PAGES then");
        LosersBooks x = Check.ruled("sw0;km8;km8;km8;km8;f;fa2b3", MIGHT);
        due("0 holds back, so that it is beaten", x.scheme(0, 1, 0), 1);
        due("1", x.scheme(1, 1, 0), 2);
        due("2 is not there that year: nobody", x.scheme(2, 1, 0), 0);
        due("no page of 2", x.scheme(2, 1, 1), 0);
        due("2", x.scheme(2, 2, 0), 4);
        due("3", x.scheme(3, 2, 0), 8);
        due("a page of 3", x.scheme(3, 2, 1), 1);
        x = Check.ruled("sw0;km20;km20;km8;fa2b0;fa2b1", MIGHT);
        due("2 is beaten anyway: nobody", x.scheme(2, 2, 0), 0);
        due("0 is never beaten: nobody", x.scheme(0, 2, 0), 0);
        Check.of("SCHEME: of several the fewest");
        // 2 is beaten by 3 if it holds back, or if 3 has won twice, as 0 and 1 (the lesser bits) hold back.
        x = Check.ruled("sw0;km10;km10;km10;km10;fa3b0;fa3b1;fa3b2", "y:w>1?60;y:m");
        due("2 alone", x.scheme(2, 3, 0), 4);
        due("a page", x.scheme(2, 3, 1), 1);
        Check.of("SCHEME: of several the fewest, then the least");
        // 0 is beaten by 1 alone if it holds back and 1 has won, as either 2 or 3 holds back.
        x = Check.ruled("sw0;km1;km10;km10;km10;fa1b2;fa1b3;fa1b0", "y:m=1?60;y:m+w*25");
        due("0 and 2", x.scheme(0, 3, 0), 5);
        due("a page", x.scheme(0, 3, 1), 1);
        Check.of("SCHEME: the KINGDOMS (bits) that should HOLD BACK (these alone)");
        x = Check.ruled("sw0;km8;km9;f", MIGHT);
        x.hold(0);
        x.hold(1);
        due("nobody", x.scheme(0, 1, 0), 0);
        due("a page", x.scheme(0, 1, 1), 1);
        due("they hold back still", x.kingdom(0, 5) + x.kingdom(1, 5), 2);
    }

    private static void schemeOfWhatIsKept() {
        Check.of("SCHEME: most PAGES (that are kept) then");
        LosersBooks x = late(30);
        due("thirty are kept", x.scheme(1, 20, 1), 30);
        due("nobody needs to hold back", x.scheme(1, 20, 0), 0);
        x = Check.ruled("sw0;km30;km5;km4;f;fb2", MIGHT);
        passYears(x, 30);
        due("fifteen of 1", x.scheme(1, 20, 1), 15);
        x.burn(0);
        due("fifteen of 1, one was burnt", x.scheme(1, 1, 1), 15);
        Check.of("SCHEME: how many (1), with what it has already");
        x = Check.ruled("sw0;km8;km9;f", MIGHT);
        passYears(x, 4);
        due("five", x.scheme(0, 1, 1), 5);
        due("none of 1", x.scheme(1, 1, 1), 1);
        due("by holding back", x.scheme(1, 1, 0), 2);
    }

    private static void peaceWithinSixty() {
        Check.of("PEACE: in how many YEARS (1 .. 60) one is DRAWN first. NONE: not within 60, no REALM");
        for (int war : new int[] {0, 1, 58, 59, 60, 100}) {
            LosersBooks x = Check.ruled("sw0;km30;km5;f", "y:d<" + war + "?m;y:1");
            due("peace() behind " + war, x.peace(), war < 60 ? war + 1 : -1);
            due("the year stays", x.count(6), 0);
        }
        due("peace() without a realm", new LosersBooks().peace(), -1);
        LosersBooks x = Check.ruled("sw0;km30;km5;f", "y:d<3?m;y:d<4?1;y:m");
        due("the first", x.peace(), 4);
        passYears(x, 3);
        due("the next one", x.peace(), 1);
        passYears(x, 1);
        due("none any more", x.peace(), -1);
    }

    private static void lastOfAField() {
        Check.of("LAST of a FIELD: in how many YEARS (1 .. 8) it is fought. NONE: no such FIELD");
        LosersBooks x = Check.realm("k;k;f;f;f;f;f;f;f;f");
        for (int f = 0; f < 8; f++) {
            due("last(" + f + ")", x.last(f), f + 1);
        }
        x.year();
        due("last(0) behind it", x.last(0), 8);
        due("last(1)", x.last(1), 1);
        due("last(7)", x.last(7), 7);
        for (int wrong : new int[] {-1, 8, FAR[0], FAR[1]}) {
            due("last(" + wrong + ")", x.last(wrong), -1);
        }
        due("last(0) without a realm", new LosersBooks().last(0), -1);
        x = Check.realm("k;k;f");
        due("last(0) of one", x.last(0), 1);
        x.year();
        due("last(0) of one still", x.last(0), 1);
        due("last(1) of one", x.last(1), -1);
        x = Check.realm("k;k;f;f;f");
        x.intrigue(0);
        for (int i = 0; i < 37; i++) {
            x.years(27, i);
        }
        due("the year is 999", x.count(6), 999);
        for (int f = 0; f < 3; f++) {
            due("last(" + f + ") at 999", x.last(f), f + 1);
        }
    }

    // ---- rumours ----

    private static void tenTold() {
        Check.of("TOLD (10 at most); told: how many there are. NONE: there are ten");
        LosersBooks x = Check.realm("k;k;f");
        for (int i = 1; i <= 10; i++) {
            due("told " + i, x.told(0, 0, 9), i);
            due("count(10)", x.count(10), i);
        }
        due("an eleventh", x.told(0, 0, 9), -1);
        due("an eleventh that would not fit", x.told(0, 0, 29), -1);
        due("count(10)", x.count(10), 10);
        due("what fits stays", x.biases(0, -1), 10);
    }

    private static void toldWithinBounds() {
        Check.of("a KINGDOM told of a FIELD that n (0 .. 29) FELL; told: NONE: no such ones, out of bounds");
        for (int n = 0; n <= 29; n++) {
            due("told(1, 1, " + n + ")", Check.realm("k;k;f;f").told(1, 1, n), 1);
        }
        LosersBooks x = Check.realm("k;k;k;f;f");
        for (int wrong : new int[] {-1, 30, FAR[0], FAR[1]}) {
            due("told(0, 0, " + wrong + ")", x.told(0, 0, wrong), -1);
        }
        for (int wrong : new int[] {-1, 3, FAR[0], FAR[1]}) {
            due("told(" + wrong + ", 0, 5)", x.told(wrong, 0, 5), -1);
        }
        for (int wrong : new int[] {-1, 2, FAR[0], FAR[1]}) {
            due("told(0, " + wrong + ", 5)", x.told(0, wrong, 5), -1);
        }
        due("count(10)", x.count(10), 0);
        due("the last of them", x.told(2, 1, 5), 1);
        due("told(0, 0, 5) without a realm", new LosersBooks().told(0, 0, 5), -1);
    }

    private static void biasesAndTruthsOfOne() {
        Check.of("BIASES (0 .. 9), TRUTHS (0 .. 20): how many (i NONE), the i-th (rising). NONE: no such one");
        for (int n = 0; n <= 29; n++) {
            LosersBooks x = Check.realm("k;k;f;f");
            x.told(1, 1, n);
            int low = Math.max(0, n - 20);
            int high = Math.min(9, n);
            due("biases told " + n, x.biases(1, -1), high - low + 1);
            due("truths told " + n, x.truths(1, -1), high - low + 1);
            for (int i = 0; i <= high - low; i++) {
                due("biases(1, " + i + ") told " + n, x.biases(1, i), low + i);
                due("truths(1, " + i + ") told " + n, x.truths(1, i), n - high + i);
            }
            for (int wrong : new int[] {-2, high - low + 1, FAR[0], FAR[1]}) {
                due("biases(1, " + wrong + ") told " + n, x.biases(1, wrong), -1);
                due("truths(1, " + wrong + ") told " + n, x.truths(1, wrong), -1);
            }
            due("biases of another", x.biases(0, -1), 10);
            due("the last of another", x.biases(0, 9), 9);
            due("none behind it", x.biases(0, 10), -1);
            due("truths of another", x.truths(0, -1), 21);
            due("the last of another", x.truths(0, 20), 20);
            due("none behind it", x.truths(0, 21), -1);
        }
        Check.of("biases: NONE: no such KINGDOM; truths: NONE: no such FIELD");
        LosersBooks x = Check.realm("k;k;k;f;f");
        for (int i : new int[] {-1, 0}) {
            for (int wrong : new int[] {-1, 3, FAR[0], FAR[1]}) {
                due("biases(" + wrong + ", " + i + ")", x.biases(wrong, i), -1);
            }
            for (int wrong : new int[] {-1, 2, FAR[0], FAR[1]}) {
                due("truths(" + wrong + ", " + i + ")", x.truths(wrong, i), -1);
            }
            due("biases(0, " + i + ") without a realm", new LosersBooks().biases(0, i), -1);
            due("truths(0, " + i + ") without a realm", new LosersBooks().truths(0, i), -1);
        }
    }

    private static void biasesAndTruthsOfMore() {
        Check.of("BIASES of all and a truth of each FIELD by which all TOLD is the truth and its BIAS");
        for (int other = 0; other <= 29; other++) {
            // 0 told 12 of the field, 1 told another number: its bias is that much more than that of 0.
            LosersBooks x = Check.realm("k;k;k;f;f");
            x.told(0, 0, 12);
            x.told(1, 0, other);
            int low = Math.max(0, 12 - other);
            int high = Math.min(9, 9 + 12 - other);
            int many = Math.max(0, high - low + 1);
            due("biases of 0, told 12 and " + other, x.biases(0, -1), many);
            due("biases of 1, told 12 and " + other, x.biases(1, -1), many);
            due("truths, told 12 and " + other, x.truths(0, -1), many);
            due("the first of 0", x.biases(0, 0), many == 0 ? -1 : low);
            due("the first of 1", x.biases(1, 0), many == 0 ? -1 : low + other - 12);
            due("the first truth", x.truths(0, 0), many == 0 ? -1 : 12 - high);
            due("biases of a third", x.biases(2, -1), many == 0 ? 0 : 10);
            due("truths of another", x.truths(1, -1), many == 0 ? 0 : 21);
            due("read(0)", x.read(0), many == 0 ? -1 : 2);
        }
        Check.of("a KINGDOM told of one FIELD twice");
        LosersBooks x = Check.realm("k;k;f;f");
        x.told(0, 0, 5);
        x.told(0, 0, 5);
        due("the same again", x.biases(0, -1), 6);
        x.told(0, 0, 6);
        due("not the same", x.biases(0, -1), 0);
        due("nor of the other", x.biases(1, -1), 0);
        due("no truth", x.truths(1, -1), 0);
    }

    private static void readForAField() {
        Check.of("READ: .. is told by the fewest (of several the lowest). NONE: nothing fits, no such FIELD");
        for (int kingdoms = 2; kingdoms <= 4; kingdoms++) {
            LosersBooks x = Check.realm("k;k" + ";k".repeat(kingdoms - 2) + ";f;f");
            due("all are alike", x.read(0), 0);
            due("read(1)", x.read(1), 0);
            for (int k = 0; k < kingdoms - 1; k++) {
                x.told(k, 0, 9);
                due("those who told of it tell nothing new", x.read(0), k + 1);
                due("of the other field", x.read(1), 0);
            }
            x.told(kingdoms - 1, 0, 9);
            due("all told of it: the lowest", x.read(0), 0);
            for (int wrong : new int[] {-1, 2, FAR[0], FAR[1]}) {
                due("read(" + wrong + ")", x.read(wrong), -1);
            }
            x.told(0, 0, 10);
            due("nothing fits", x.read(0), -1);
            due("nor for the other field", x.read(1), -1);
        }
        due("read(0) without a realm", new LosersBooks().read(0), -1);
        Check.of("READ: a KINGDOM of known BIAS tells apart all truths, one of unknown BIAS fewer");
        LosersBooks x = Check.realm("k;k;f;f");
        x.told(0, 0, 0);
        // 0 has bias 0: each of 21 numbers by one truth with each of 10 biases. 1: most numbers by ten pairs of 210.
        due("both leave ten: the lowest", x.read(1), 0);
        x = Check.realm("k;k;f;f");
        x.told(1, 0, 0);
        due("both leave ten: the lowest", x.read(1), 0);
        x.told(0, 1, 3);
        // Of field 1 truths 0 .. 3: by 1 each of 4 numbers once; 0 tells 3 in all four.
        due("0 is bound", x.read(1), 1);
        Check.of("READ: where all is known nobody tells anything new: the lowest");
        for (int n : new int[] {0, 29}) {
            x = Check.realm("k;k;f;f;f");
            x.told(0, 0, n);
            x.told(1, 1, n);
            due("one bias each", x.biases(0, -1) + x.biases(1, -1), 2);
            due("read(0) of " + n, x.read(0), 0);
            due("read(1) of " + n, x.read(1), 0);
            due("read(2) of " + n, x.read(2), 0);
        }
        x = Check.realm("k;k;f;f;f");
        x.told(0, 0, 29);
        x.told(0, 1, 9);
        x.told(1, 2, 29);
        due("bias 9 of both, none fell", x.biases(1, 0) * 100 + x.truths(1, -1) * 10 + x.truths(1, 0), 910);
        due("read(1)", x.read(1), 0);
        Check.of("READ: is told by the fewest: a KINGDOM of more BIASES tells less");
        // Of truths 0 .. 2: 0 of biases 0 .. 9 tells each number 2 .. 9 three times of 30, 1 of bias 0 each once of 3.
        x = Check.realm("k;k;k;f;f;f");
        x.told(1, 1, 0);
        x.told(2, 0, 2);
        due("three truths", x.truths(0, -1), 3);
        due("0 leaves 3 of 30", x.read(0), 0);
        x.told(0, 2, 1);
        // 0 of biases 0, 1 leaves 2 of 6, as 1 leaves 1 of 3.
        due("alike: the lowest", x.read(0), 0);
        x.told(0, 2, 1);
        x.told(0, 1, 0);
        due("0 of bias 0 alone, too", x.read(0), 0);
    }

    private static void toldOfEach() {
        Check.of("a KINGDOM told of a FIELD: each of four of each of eight");
        for (int k = 0; k < 4; k++) {
            for (int f = 0; f < 8; f++) {
                LosersBooks x = Check.realm("k;k;k;k;f;f;f;f;f;f;f;f");
                due("told(" + k + ", " + f + ", 26)", x.told(k, f, 26), 1);
                for (int other = 0; other < 4; other++) {
                    due("biases(" + other + ", -1)", x.biases(other, -1), other == k ? 4 : 10);
                }
                for (int other = 0; other < 8; other++) {
                    due("truths(" + other + ", -1)", x.truths(other, -1), other == f ? 4 : 21);
                }
                due("the first bias, the first truth", x.biases(k, 0) * 100 + x.truths(f, 0), 617);
                // Bias 6 .. 9 of k: 4 of 84 pairs for another field; the others tell as many as 10 of 210 alike.
                due("read(" + f + "): k is bound", x.read(f), k == 0 ? 1 : 0);
                due("read of another: alike", x.read((f + 1) % 8), 0);
            }
        }
        Check.of("READ: who told of the FIELD tells nothing new of it, one of known BIAS tells all truths apart");
        for (int f = 0; f < 8; f++) {
            LosersBooks one = Check.realm("k;k;f;f;f;f;f;f;f;f");
            one.told(0, f, 26);
            one.told(1, (f + 1) % 8, 29);
            due("read(" + f + ")", one.read(f), 1);
        }
        Check.of("TOLD (10 at most): the tenth counts");
        LosersBooks x = Check.realm("k;k;f;f");
        for (int i = 0; i < 9; i++) {
            x.told(0, 0, 9);
        }
        due("truths(1, -1) of nine", x.truths(1, -1), 21);
        due("the tenth", x.told(1, 1, 29), 10);
        due("truths(1, -1) of ten", x.truths(1, -1), 1);
        due("truths(1, 0)", x.truths(1, 0), 20);
        due("biases(1, 0)", x.biases(1, 0), 9);
        Check.of("READ: three of whom nobody tells anything new: the lowest");
        x = Check.realm("k;k;k;f;f;f");
        x.told(0, 0, 29);
        x.told(0, 1, 9);
        x.told(2, 2, 29);
        x.told(1, 2, 21);
        due("biases", x.biases(0, 0) * 100 + x.biases(1, 0) * 10 + x.biases(2, 0), 919);
        due("none fell", x.truths(1, -1) * 10 + x.truths(1, 0), 10);
        for (int f = 0; f < 3; f++) {
            due("read(" + f + ")", x.read(f), 0);
        }
    }

    /** One follows from another through all that was told, in whatever order it was. */
    private static void oneFromAnother() {
        Check.of("BIASES of all and a truth of each FIELD by which all TOLD is the truth and its BIAS, in any order");
        int[][] chain = {{0, 0, 29}, {1, 0, 24}, {1, 1, 10}, {2, 1, 14}, {2, 2, 8}, {3, 2, 3}, {3, 3, 20}, {2, 4, 28}};
        int[] bias = {9, 4, 8, 3};
        int[] truth = {20, 6, 0, 17, 20};
        int[] orders = {1, 3, 5, 7};
        for (int step : orders) {
            for (int from = 0; from < chain.length; from++) {
                LosersBooks x = Check.realm("k;k;k;k;f;f;f;f;f;f");
                for (int i = 0; i < chain.length; i++) {
                    int[] one = chain[(from + i * step) % chain.length];
                    x.told(one[0], one[1], one[2]);
                }
                String order = " told from " + from + " by " + step;
                for (int k = 0; k < 4; k++) {
                    due("biases(" + k + ", -1)" + order, x.biases(k, -1), 1);
                    due("biases(" + k + ", 0)" + order, x.biases(k, 0), bias[k]);
                }
                for (int f = 0; f < 5; f++) {
                    due("truths(" + f + ", -1)" + order, x.truths(f, -1), 1);
                    due("truths(" + f + ", 0)" + order, x.truths(f, 0), truth[f]);
                }
                due("nothing of another" + order, x.truths(5, -1), 21);
                due("told(3, 3, 20) again" + order, x.told(3, 3, 20), 9);
                due("it fits" + order, x.biases(0, -1), 1);
                due("told(3, 0, 22)" + order, x.told(3, 0, 22), 10);
                due("it does not" + order, x.biases(0, -1), 0);
            }
        }
    }

    // ---- pages ----

    private static void sameByTwo() {
        Check.of("SAME: FIELDS (bits) of which PAGES that are kept tell the same by two KINGDOMS or more");
        // By this law the first wins in even years, the second in odd ones.
        String turns = "y:d-d/2*2=1?10-g;y:g";
        LosersBooks x = Check.ruled("sw0;kb3;kb3;fg9", turns);
        due("no page", x.all(11), 0);
        x.year();
        due("one page", x.all(11), 0);
        x.year();
        due("one of each", x.all(11), 1);
        x.burn(0);
        due("one is burnt", x.all(11), 0);
        x.undo();
        due("it is there again", x.all(11), 1);
        x.burn(1);
        due("the other is burnt", x.all(11), 0);
        x.undo();
        due("it is there again", x.all(11), 1);
        x = Check.ruled("sw0;kb3;kb4;fg9", turns);
        passYears(x, 4);
        due("not the same", x.all(11), 0);
        x = Check.ruled("sw0;kb3;kb3;fg9n5;fg9n5", turns);
        passYears(x, 4);
        due("the same of two fields, each by one kingdom", x.all(11), 0);
        due("four pages", x.count(8), 4);
        x = Check.ruled("sw0;kb3;kb3;fg9;fg9;fg9;fg9;fg9;fg9;fg9;fg9", "y:d<8?g;y:10-g");
        passYears(x, 15);
        due("all but the last", x.all(11), 127);
        x.year();
        due("all eight", x.all(11), 255);
        passYears(x, 30);
        due("the old ones are lost", x.all(11), 0);
        x = Check.ruled("sw0;kb3;kb3;fg9", "y:d<29?g;y:10-g");
        passYears(x, 29);
        due("29 pages of 1", x.all(11), 0);
        x.year();
        due("the thirtieth of 0", x.all(11), 1);
        x = Check.ruled("sw0c99;kb3;kb4;fg9", turns);
        x.swear(1);
        passYears(x, 2);
        due("by a bias that is less by now", x.all(11), 1);
        x.swear(1);
        due("what is told stays", x.all(11), 1);
    }

    private static void silentFields() {
        Check.of("SILENT: FIELDS (bits) of which no PAGE is kept");
        LosersBooks x = Check.ruled("sw0;km30;k;f;f;f;f;f;f;f;f", MIGHT);
        for (int year = 0; year <= 8; year++) {
            due("silent in year " + year, x.all(12), 255 & ~((1 << year) - 1));
            x.year();
        }
        x.burn(0);
        due("field 0 has another page", x.all(12), 0);
        x.burn(0);
        due("field 1 has none", x.all(12), 2);
        due("one field, drawn", silentBehindADraw(), 1);
        x = Check.ruled("sw0;km30;k;f;f", "y:d-d/2*2=1&d>2?1;y:m");
        passYears(x, 4);
        due("none is silent", x.all(12), 0);
        for (int i = 0; i < 27; i++) {
            x.year();
            x.year();
        }
        due("30 pages: the one of field 1 is there", x.all(12), 0);
        x.year();
        due("31: page 0 was lost", x.all(12), 0);
        x.year();
        x.year();
        due("32: the page of field 1 was lost", x.all(12), 2);
        x = Check.ruled("sw0;km30;k;fg9;fg9", "y:d-d/2*2=1&d<59?1;y:g");
        passYears(x, 59);
        due("30 pages of field 0", x.count(8) * 10 + x.all(12), 302);
        x.year();
        due("the latest of 30 is of field 1", x.count(8) * 10 + x.all(12), 300);
    }

    private static int silentBehindADraw() {
        LosersBooks x = Check.realm("k;k;f");
        x.year();
        return x.all(12);
    }

    // ---- games ----

    private static void gameOfTwo() {
        Check.of("GAME: its STYLE and 2, if it is BEATEN; 4, if it WINS; DRAWN 0; less 1, if it HOLDS BACK");
        for (int style = 0; style <= 9; style++) {
            LosersBooks x = Check.realm("km9s" + style + ";km5s" + (9 - style) + ";f");
            int[][] first = {{4, 4}, {style + 2 - 1, 4 - 1}};
            int[][] second = {{9 - style + 2, 9 - style + 2 - 1}, {4, 9 - style + 2 - 1}};
            for (int i = 0; i < 4; i++) {
                due("game(0, " + i / 2 + ", " + i % 2 + ", 0)", x.game(0, i / 2, i % 2, 0), first[i / 2][i % 2]);
                due("game(0, " + i / 2 + ", " + i % 2 + ", 1)", x.game(0, i / 2, i % 2, 1), second[i / 2][i % 2]);
            }
        }
        LosersBooks x = Check.realm("km0;km1;f");
        int[][] drawn = {{0, 1, 0, -1}, {1, 1, -1, -1}};
        for (int[] one : drawn) {
            due("drawn, the first", x.game(0, one[0], one[1], 0), one[2]);
            due("drawn, the second", x.game(0, one[0], one[1], 1), one[3]);
        }
        x.hold(1);
        due("who holds back now makes no odds", x.game(0, 0, 0, 1), 4);
        Check.of("game: HIDDEN: no such FIELD, out of bounds");
        for (int wrong : new int[] {-1, 1, FAR[0], FAR[1]}) {
            due("game(" + wrong + ", 0, 0, 0)", x.game(wrong, 0, 0, 0), HIDDEN);
        }
        for (int wrong : new int[] {-1, 2, FAR[0], FAR[1]}) {
            due("game(0, " + wrong + ", 0, 0)", x.game(0, wrong, 0, 0), HIDDEN);
            due("game(0, 0, " + wrong + ", 0)", x.game(0, 0, wrong, 0), HIDDEN);
            due("game(0, 0, 0, " + wrong + ")", x.game(0, 0, 0, wrong), HIDDEN);
        }
        due("game without a realm", new LosersBooks().game(0, 0, 0, 0), HIDDEN);
    }

    private static void restsOfTwo() {
        Check.of("RESTS: 10 times x and y by which neither has more by the other of its own: how many, the i-th (rising)");
        restsAre("km3s4;km4s4;f");
        restsAre("km30s9;km30s9;fg9");
        restsAre("km0s0;km0s0;f", 0);
        restsAre("km30s3;km30s9;fg9", 0);
        restsAre("km2s0;km3s3;f", 0, 1);
        restsAre("km29s3;km30s3;f", 0, 1);
        restsAre("km3s3;km2s0;f", 0, 10);
        restsAre("km2s0;km3s4;f", 1);
        restsAre("km29s3;km30s9;f", 1);
        restsAre("km1s0;km1s0;f", 1, 10);
        restsAre("km30s9;km30s9;f", 1, 10);
        restsAre("km3s4;km2s0;f", 10);
        restsAre("km30s9;km30s3;fg9", 10);
        Check.of("rests: NONE: no such one, no such FIELD");
        LosersBooks x = Check.realm("k;k;f");
        for (int i : new int[] {-1, 0}) {
            for (int wrong : new int[] {-1, 1, FAR[0], FAR[1]}) {
                due("rests(" + wrong + ", " + i + ")", x.rests(wrong, i), -1);
            }
            due("rests(0, " + i + ") without a realm", new LosersBooks().rests(0, i), -1);
        }
    }

    private static void restsAre(String realm, int... want) {
        LosersBooks x = Check.realm(realm);
        due("rests(0, -1) of " + realm, x.rests(0, -1), want.length);
        for (int i = 0; i < want.length; i++) {
            due("rests(0, " + i + ") of " + realm, x.rests(0, i), want[i]);
        }
        for (int wrong : new int[] {want.length, want.length + 1, -2, FAR[0], FAR[1]}) {
            due("rests(0, " + wrong + ") of " + realm, x.rests(0, wrong), -1);
        }
    }

    private static void oddsByHundredths() {
        Check.of("ODDS of a FIELD for chances a, b (0 .. 100 each): of 10 to the 9 parts");
        // Who is beaten in truth, by whether the first (row) and the second (column) holds back.
        String[] realms = {"km9;km5;f", "km5;km9;f", "km8;km8;f", "km9;km2;f", "km2;km9;f", "km0;km1;f"};
        boolean[][][] beaten = {{{false, false}, {true, false}}, {{true, false}, {true, true}}, {{false, false}, {true, false}},
            {{false, false}, {false, false}}, {{true, true}, {true, true}}, {{true, false}, {true, false}}};
        int[] chances = {0, 1, 2, 33, 49, 50, 51, 67, 98, 99, 100};
        for (int r = 0; r < realms.length; r++) {
            LosersBooks x = Check.realm(realms[r]);
            for (int a : chances) {
                for (int b : chances) {
                    long want = 0;
                    for (int i = 0; i < 4; i++) {
                        long part = (i / 2 == 1 ? a : 100 - a) * (i % 2 == 1 ? b : 100 - b) * 100000L;
                        want += beaten[r][i / 2][i % 2] ? part : 0;
                    }
                    due("odds(0, " + a + ", " + b + ") of " + realms[r], x.odds(0, a, b), want);
                }
            }
        }
        Check.of("odds: NONE: no such FIELD, out of bounds");
        LosersBooks x = Check.realm("k;k;f");
        x.hold(0);
        due("who holds back now makes no odds", x.odds(0, 0, 0), 0);
        for (int wrong : new int[] {-1, 1, FAR[0], FAR[1]}) {
            due("odds(" + wrong + ", 0, 0)", x.odds(wrong, 0, 0), -1);
        }
        for (int wrong : new int[] {-1, 101, FAR[0], FAR[1]}) {
            due("odds(0, " + wrong + ", 0)", x.odds(0, wrong, 0), -1);
            due("odds(0, 0, " + wrong + ")", x.odds(0, 0, wrong), -1);
        }
        due("odds without a realm", new LosersBooks().odds(0, 0, 0), -1);
    }

    // ---- shelves ----

    private static void sharesOfPages() {
        Check.of("SHARES of c (0 .. 999) by PAGES: for a KINGDOM c times its by all, cut (none: 0)");
        LosersBooks x = Check.ruled("sw0;km30;km9;km5;f;fb2;fb2", MIGHT);
        due("no page", x.shares(1, 999), 0);
        x.year();
        due("all are its", x.shares(1, 999), 999);
        due("none is its", x.shares(0, 999), 0);
        passYears(x, 6);
        // 1 has 3 of 7, 2 has 4.
        int[][] want = {{0, 0, 0}, {1, 0, 0}, {2, 0, 1}, {3, 1, 1}, {7, 3, 4}, {998, 427, 570}, {999, 428, 570}};
        for (int[] one : want) {
            due("shares(1, " + one[0] + ")", x.shares(1, one[0]), one[1]);
            due("shares(2, " + one[0] + ")", x.shares(2, one[0]), one[2]);
            due("shares(0, " + one[0] + ")", x.shares(0, one[0]), 0);
        }
        Check.of("shares: NONE: no such KINGDOM, out of bounds");
        for (int wrong : new int[] {-1, 1000, FAR[0], FAR[1]}) {
            due("shares(1, " + wrong + ")", x.shares(1, wrong), -1);
        }
        for (int wrong : new int[] {-1, 3, FAR[0], FAR[1]}) {
            due("shares(" + wrong + ", 1)", x.shares(wrong, 1), -1);
        }
        due("shares(0, 0) without a realm", new LosersBooks().shares(0, 0), -1);
    }

    private static void ofSeveralTheLowest() {
        Check.of("MIGHTIEST, BIASED, STYLED: the KINGDOM (of several the lowest, all)");
        String[] letters = {"m", "b", "s"};
        for (int what = 0; what < 3; what++) {
            for (int lowest = 0; lowest < 4; lowest++) {
                StringBuilder realm = new StringBuilder("f");
                for (int k = 0; k < 4; k++) {
                    realm.append(";k").append(letters[what]).append(k >= lowest ? 9 : 8);
                }
                due("all(" + what + ") of " + realm, Check.realm(realm.toString()).all(what), lowest);
            }
        }
        Check.of("VICTOR (most WINS), WRITER (most PAGES): the KINGDOM (of several the lowest, all)");
        LosersBooks x = Check.ruled("sw0;km1;km2;km3;km4;fa3b2;fa2b1;fa1b0;fa2b1", MIGHT);
        int[] victors = {0, 3, 2, 1, 2};
        int[] writers = {0, 2, 1, 0, 1};
        for (int year = 0; year <= 4; year++) {
            due("victor in year " + year, x.all(3), victors[year]);
            due("writer in year " + year, x.all(4), writers[year]);
            x.year();
        }
        Check.of("all: NONE: no REALM, no such what");
        for (int what = -1; what <= 13; what++) {
            due("all(" + what + ") without a realm", new LosersBooks().all(what), -1);
        }
        for (int wrong : new int[] {-1, 13, FAR[0], FAR[1]}) {
            due("all(" + wrong + ")", x.all(wrong), -1);
        }
        Check.of("NEXT: the FIELD of this YEAR");
        x = Check.realm("k;k;f;f;f");
        for (int year = 0; year < 7; year++) {
            due("next of " + year, x.all(10), year % 3);
            x.year();
        }
    }

    private static void neverAndAlways() {
        Check.of("NEVER: KINGDOMS (bits) with WINS that have no PAGE. ALWAYS: KINGDOMS (bits) with PAGES. DUMB: WINS of all");
        LosersBooks x = Check.ruled("sw0;km1;km2;km3;km4;fa3b2;fa2b1;fa1b0", MIGHT);
        int[] never = {0, 8, 8, 8};
        int[] always = {0, 4, 6, 7};
        for (int year = 0; year <= 3; year++) {
            due("never in year " + year, x.all(5), never[year]);
            due("always in year " + year, x.all(6), always[year]);
            due("dumb in year " + year, x.all(7), year);
            x.year();
        }
        for (int i = 0; i < 4; i++) {
            x.burn(0);
        }
        due("never, when all is burnt", x.all(5), 14);
        due("always, when all is burnt", x.all(6), 0);
        due("dumb still", x.all(7), 4);
        due("dumb at 999", late(999).all(7), 999);
        for (int winner = 0; winner < 4; winner++) {
            int beaten = winner == 0 ? 3 : winner - 1;
            x = Check.realm("k;k;k;k;fa" + winner + "b" + beaten + "g1");
            x.year();
            due("never, " + winner + " won", x.all(5), 1 << winner);
            due("always, " + beaten + " was beaten", x.all(6), 1 << beaten);
            due("dumb", x.all(7), 1);
            x.burn(0);
            due("never, when it is burnt", x.all(5), 1 << winner);
            due("always, when it is burnt", x.all(6), 0);
        }
    }

    private static void lieAndBloodiest() {
        Check.of("LIE: by how much PAGES that are kept tell more than the truth in all");
        LosersBooks x = Check.ruled("sw0;km30;kb9;fn20;fn0", MIGHT);
        for (int year = 0; year <= 32; year++) {
            due("the lie in year " + year, x.all(9), 9 * Math.min(30, year));
            x.year();
        }
        x.burn(29);
        due("a page less", x.all(9), 9 * 29);
        x = Check.ruled("sw0;km30;kb1;fn1;fn2;fn3;fn4;fn5;fn6;fn7;fn8", MIGHT);
        for (int year = 0; year <= 8; year++) {
            due("the lie of fields below " + year, x.all(9), year);
            x.year();
        }
        due("no bias, no lie", lieOfNoBias(), 0);
        Check.of("BLOODIEST: the FIELD where most FELL in truth");
        for (int most = 0; most < 8; most++) {
            StringBuilder realm = new StringBuilder("k;k");
            for (int f = 0; f < 8; f++) {
                realm.append(";fn").append(f == most ? 20 : 19);
            }
            due("all(8) of " + realm, Check.realm(realm.toString()).all(8), most);
        }
        due("of several the lowest", Check.realm("k;k;fn0;fn5;fn5").all(8), 1);
        due("none fell", Check.realm("k;k;fn0;fn0").all(8), 0);
    }

    private static int lieOfNoBias() {
        LosersBooks x = Check.realm("km30;kb0;f");
        x.year();
        return x.all(9);
    }

    private static void pagesByNumber() {
        Check.of("PAGE i (the oldest 0): its FIELD (0), who wrote it (1), what it tells (2). NONE: no such ones");
        for (int pages : new int[] {0, 1, 30}) {
            LosersBooks x = Check.ruled("sw0;km30;km9b1;km5b2;fn20;fb2n0", MIGHT);
            passYears(x, pages);
            for (int i = 0; i < pages; i++) {
                due("page(" + i + ", 0)", x.page(i, 0), i % 2);
                due("page(" + i + ", 1)", x.page(i, 1), 1 + i % 2);
                due("page(" + i + ", 2)", x.page(i, 2), i % 2 == 0 ? 21 : 2);
            }
            for (int what = 0; what < 3; what++) {
                for (int wrong : new int[] {-1, pages, FAR[0], FAR[1]}) {
                    due("page(" + wrong + ", " + what + ") of " + pages, x.page(wrong, what), -1);
                }
            }
            for (int wrong : new int[] {-1, 3, FAR[0], FAR[1]}) {
                due("page(0, " + wrong + ") of " + pages, x.page(0, wrong), -1);
            }
        }
        due("page(0, 0) without a realm", new LosersBooks().page(0, 0), -1);
    }

    private static void warsOfTwo() {
        Check.of("WARS of two: FIELDS (bits) where they meet (alike: none). NONE: no such KINGDOMS");
        LosersBooks x = Check.realm("k;k;k;k;f;fa1b0;fb2;fa2b0;fb3;fa3b1;fa1b3;f");
        int[][] want = {{0, 131, 12, 16}, {131, 0, 0, 96}, {12, 0, 0, 0}, {16, 96, 0, 0}};
        for (int one = 0; one < 4; one++) {
            for (int other = 0; other < 4; other++) {
                due("wars(" + one + ", " + other + ")", x.wars(one, other), want[one][other]);
            }
            for (int wrong : new int[] {-1, 4, FAR[0], FAR[1]}) {
                due("wars(" + one + ", " + wrong + ")", x.wars(one, wrong), -1);
                due("wars(" + wrong + ", " + one + ")", x.wars(wrong, one), -1);
                due("wars(" + wrong + ", " + wrong + ")", x.wars(wrong, wrong), -1);
            }
        }
        due("wars in all", Check.realm("k;k;f;f;f;f;f;f;f;f").wars(0, 1), 255);
        due("wars(0, 1) without a realm", new LosersBooks().wars(0, 1), -1);
        due("wars(0, 0) without a realm", new LosersBooks().wars(0, 0), -1);
        Check.of("field: NONE: no such ones; kingdom: NoSuchElementException: no such ones");
        for (int wrong : new int[] {-1, 8, FAR[0], FAR[1]}) {
            due("field(" + wrong + ", 0)", x.field(wrong, 0), -1);
        }
        for (int wrong : new int[] {-1, 4, FAR[0], FAR[1]}) {
            due("field(0, " + wrong + ")", x.field(0, wrong), -1);
        }
        due("the last", x.field(7, 3), 7);
        due("field(0, 0) without a realm", new LosersBooks().field(0, 0), -1);
    }

    private static void counts() {
        Check.of("count: HIDDEN for others");
        for (int wrong : new int[] {-1, 13, FAR[0], FAR[1]}) {
            due("count(" + wrong + ") without a realm", new LosersBooks().count(wrong), HIDDEN);
            due("count(" + wrong + ")", Check.realm("k;k;f").count(wrong), HIDDEN);
        }
        for (int what = 0; what <= 12; what++) {
            due("count(" + what + ") is none of others", new LosersBooks().count(what) != HIDDEN, true);
        }
    }
}
