import java.util.function.Supplier;
import java.util.function.ToLongFunction;

/** What is refused answers as told and changes nothing; nor does a question: each call by each of its refusals. */
public final class RefusalsTest {
    private static final int HIDDEN = -1000000;
    private static final int LEAST = Integer.MIN_VALUE;
    private static final int GREATEST = Integer.MAX_VALUE;
    private static final String FOUR = "sw1c60;km20b5s5;km18b4s5;km16b3s5;km14b2s5;f;fa1b2;fa2b3;fa3b0;fa0b2;fa1b3;fa3b1";

    private final String state;
    private final Supplier<LosersBooks> recipe;

    private RefusalsTest(String state, Supplier<LosersBooks> recipe) {
        this.state = state;
        this.recipe = recipe;
    }

    public static void main(String[] args) {
        Check.of("What is refused answers as told and changes nothing");
        new RefusalsTest("new", LosersBooks::new).withoutRealm();
        new RefusalsTest("texts alone", RefusalsTest::textsAlone).withoutRealm();
        for (RefusalsTest one : new RefusalsTest[] {new RefusalsTest("begun", RefusalsTest::begun),
            new RefusalsTest("amidst", RefusalsTest::amidst), new RefusalsTest("full", RefusalsTest::full),
            new RefusalsTest("late", RefusalsTest::late)}) {
            one.outOfBounds();
            one.questions();
        }
        new RefusalsTest("full", RefusalsTest::full).whenFull();
        new RefusalsTest("late", RefusalsTest::late).whenLate();
        poor();
        Check.end();
    }

    // ---- states ----

    private static LosersBooks textsAlone() {
        LosersBooks x = new LosersBooks();
        Check.text(x, 1, "y:7");
        x.law(0);
        Check.text(x, 2, "y;h0");
        x.intrigue(7);
        Check.feed(x, "k;k");
        return x;
    }

    private static LosersBooks begun() {
        return Check.realm("k;k;f");
    }

    private static LosersBooks amidst() {
        LosersBooks x = Check.realm(FOUR);
        Check.text(x, 1, "y:m+g");
        Check.text(x, 1, "y:s*2");
        x.law(1);
        Check.text(x, 2, "y;h0;a1;t1");
        x.years(5, 11);
        x.image();
        x.hold(2);
        x.years(7, 12);
        x.arm(0);
        x.told(0, 0, 12);
        x.told(1, 0, 9);
        Check.feed(x, "k;k;f");
        return x;
    }

    /** As many of all as there can be: pages, lines, acts, coins, told, laws, campaigns, bytes. */
    private static LosersBooks full() {
        LosersBooks x = new LosersBooks();
        Check.text(x, 0, "sw0c99;km30b0s9;km20b0s9;km10b9s0;f;fa1b2");
        for (int i = 0; i < 4; i++) {
            Check.text(x, 1, i == 0 ? "y:m" : "y:" + i);
            Check.text(x, 2, "y;h" + i);
        }
        x.law(0);
        x.intrigue(0);
        for (int i = 0; i < 18; i++) {
            x.give(50);
        }
        x.years(30, 1);
        x.image();
        x.years(30, 2);
        for (int i = 0; i < 10; i++) {
            x.told(1, 0, 9);
        }
        for (int i = 0; i < 12; i++) {
            x.feed(0x20202020, 0x20202020, 0x20202020, 0x20202020, i == 0 ? 0x793a3120 : 0x20202020);
        }
        return x;
    }

    private static LosersBooks late() {
        LosersBooks x = Check.ruled("sw0;km30;km5;fg9;fa1b0g9", "y:g");
        Check.text(x, 2, "y");
        for (int i = 0; i < 37; i++) {
            x.years(27, i);
        }
        return x;
    }

    // ---- calls ----

    private void refused(String call, long answer, ToLongFunction<LosersBooks> how) {
        Twins.same(state + ": " + call, recipe, how, answer);
    }

    /** A question that is not refused: whatever it answers, it changes nothing. */
    private void asked(String call, ToLongFunction<LosersBooks> how) {
        long answer = Twins.answerOf(how, recipe.get());
        Check.due(state + ": " + call + " throws nothing", answer != Twins.THROWN && answer != Twins.WRONGLY_THROWN, true);
        Twins.same(state + ": " + call, recipe, how, answer);
    }

    private static int[] outside(int low, int high) {
        return new int[] {low - 1, high + 1, LEAST, GREATEST};
    }

    private void withoutRealm() {
        for (int n : new int[] {0, 1, -1}) {
            refused("kingdom(" + n + ", 0)", Twins.THROWN, x -> x.kingdom(n, 0));
            refused("field(" + n + ", 0)", -1, x -> x.field(n, 0));
            refused("hold(" + n + ")", -1, x -> x.hold(n));
            refused("arm(" + n + ")", -1, x -> x.arm(n));
            refused("teach(" + n + ")", -1, x -> x.teach(n));
            refused("swear(" + n + ")", -1, x -> x.swear(n));
            refused("burn(" + n + ")", -1, x -> x.burn(n));
            refused("give(" + n + ")", -1, x -> x.give(n));
            refused("years(" + n + ", 1)", -1, x -> x.years(n, 1));
            refused("log(" + n + ", 0)", HIDDEN, x -> x.log(n, 0));
            refused("run(" + n + ", 0)", HIDDEN, x -> x.run(n, 0));
            refused("run(" + n + ", 1)", HIDDEN, x -> x.run(n, 1));
            refused("perform(" + n + ")", -1, x -> x.perform(n));
            refused("force(" + n + ", 0)", -1, x -> x.force(n, 0));
            refused("wins(" + n + ")", -2, x -> x.wins(n));
            refused("shelf(" + n + ", 1)", -1, x -> x.shelf(n, 1));
            refused("scheme(" + n + ", 1, 0)", -1, x -> x.scheme(n, 1, 0));
            refused("last(" + n + ")", -1, x -> x.last(n));
            refused("told(" + n + ", 0, 5)", -1, x -> x.told(n, 0, 5));
            refused("biases(" + n + ", -1)", -1, x -> x.biases(n, -1));
            refused("truths(" + n + ", -1)", -1, x -> x.truths(n, -1));
            refused("read(" + n + ")", -1, x -> x.read(n));
            refused("game(" + n + ", 0, 0, 0)", HIDDEN, x -> x.game(n, 0, 0, 0));
            refused("rests(" + n + ", -1)", -1, x -> x.rests(n, -1));
            refused("odds(" + n + ", 0, 0)", -1, x -> x.odds(n, 0, 0));
            refused("shares(" + n + ", 0)", -1, x -> x.shares(n, 0));
            refused("all(" + n + ")", -1, x -> x.all(n));
            refused("page(" + n + ", 0)", -1, x -> x.page(n, 0));
            refused("wars(" + n + ", 0)", -1, x -> x.wars(n, 0));
        }
        refused("year()", -2, LosersBooks::year);
        refused("undo()", -1, LosersBooks::undo);
        refused("peace()", -1, LosersBooks::peace);
        refused("image()", -1, LosersBooks::image);
        refused("back()", -1, LosersBooks::back);
        texts();
    }

    private void outOfBounds() {
        texts();
        kingdomsOutOfBounds();
        fieldsOutOfBounds();
        numbersOutOfBounds();
    }

    private void texts() {
        LosersBooks made = recipe.get();
        int bytes = made.count(4);
        for (int n : outside(0, bytes)) {
            refused("end(" + n + ")", 0, x -> x.end(n) ? 1 : 0);
        }
        for (int sort : outside(0, 2)) {
            refused("fault(" + sort + ")", -2, x -> x.fault(sort));
            refused("text(" + sort + ")", -1, x -> x.text(sort));
        }
        for (int sort = 0; sort <= 2; sort++) {
            int of = sort;
            asked("fault(" + sort + ")", x -> x.fault(of));
            if (made.fault(sort) != -1) {
                refused("text(" + sort + ") with a fault", -1, x -> x.text(of));
            }
        }
        for (int law : outside(-1, made.count(2) - 1)) {
            refused("law(" + law + ")", 0, x -> x.law(law) ? 1 : 0);
        }
        for (int v : new int[] {-1, 10, LEAST, GREATEST, made.count(9)}) {
            refused("intrigue(" + v + ")", 0, x -> x.intrigue(v) ? 1 : 0);
        }
        for (int c : outside(0, made.count(3) - 1)) {
            refused("step(" + c + ", 0, 0)", HIDDEN, x -> x.step(c, 0, 0));
            refused("run(" + c + ", 0)", HIDDEN, x -> x.run(c, 0));
            refused("perform(" + c + ")", -1, x -> x.perform(c));
        }
        for (int i : outside(0, 3)) {
            refused("step(0, " + i + ", 0)", HIDDEN, x -> x.step(0, i, 0));
            refused("run(0, " + i + ")", HIDDEN, x -> x.run(0, i));
        }
        for (int what : outside(0, 1)) {
            refused("step(0, 0, " + what + ")", HIDDEN, x -> x.step(0, 0, what));
        }
        for (int what : outside(0, 12)) {
            refused("count(" + what + ")", HIDDEN, x -> x.count(what));
        }
    }

    private void kingdomsOutOfBounds() {
        for (int k : outside(0, recipe.get().count(0) - 1)) {
            refused("kingdom(" + k + ", 0)", Twins.THROWN, x -> x.kingdom(k, 0));
            refused("hold(" + k + ")", -1, x -> x.hold(k));
            refused("arm(" + k + ")", -1, x -> x.arm(k));
            refused("teach(" + k + ")", -1, x -> x.teach(k));
            refused("swear(" + k + ")", -1, x -> x.swear(k));
            refused("force(" + k + ", 0)", -1, x -> x.force(k, 0));
            refused("shelf(" + k + ", 1)", -1, x -> x.shelf(k, 1));
            refused("scheme(" + k + ", 1, 0)", -1, x -> x.scheme(k, 1, 0));
            refused("told(" + k + ", 0, 5)", -1, x -> x.told(k, 0, 5));
            refused("biases(" + k + ", -1)", -1, x -> x.biases(k, -1));
            refused("shares(" + k + ", 5)", -1, x -> x.shares(k, 5));
            refused("wars(" + k + ", 0)", -1, x -> x.wars(k, 0));
            refused("wars(0, " + k + ")", -1, x -> x.wars(0, k));
            refused("wars(" + k + ", " + k + ")", -1, x -> x.wars(k, k));
        }
        for (int what : outside(0, 5)) {
            refused("kingdom(0, " + what + ")", Twins.THROWN, x -> x.kingdom(0, what));
        }
    }

    private void fieldsOutOfBounds() {
        for (int f : outside(0, recipe.get().count(1) - 1)) {
            refused("field(" + f + ", 0)", -1, x -> x.field(f, 0));
            refused("force(0, " + f + ")", -1, x -> x.force(0, f));
            refused("wins(" + f + ")", -2, x -> x.wins(f));
            refused("last(" + f + ")", -1, x -> x.last(f));
            refused("told(0, " + f + ", 5)", -1, x -> x.told(0, f, 5));
            refused("truths(" + f + ", -1)", -1, x -> x.truths(f, -1));
            refused("read(" + f + ")", -1, x -> x.read(f));
            refused("game(" + f + ", 0, 0, 0)", HIDDEN, x -> x.game(f, 0, 0, 0));
            refused("rests(" + f + ", -1)", -1, x -> x.rests(f, -1));
            refused("odds(" + f + ", 0, 0)", -1, x -> x.odds(f, 0, 0));
        }
        for (int what : outside(0, 3)) {
            refused("field(0, " + what + ")", -1, x -> x.field(0, what));
        }
        for (int x01 : outside(0, 1)) {
            refused("game(0, " + x01 + ", 0, 0)", HIDDEN, x -> x.game(0, x01, 0, 0));
            refused("game(0, 0, " + x01 + ", 0)", HIDDEN, x -> x.game(0, 0, x01, 0));
            refused("game(0, 0, 0, " + x01 + ")", HIDDEN, x -> x.game(0, 0, 0, x01));
        }
        for (int chance : outside(0, 100)) {
            refused("odds(0, " + chance + ", 0)", -1, x -> x.odds(0, chance, 0));
            refused("odds(0, 0, " + chance + ")", -1, x -> x.odds(0, 0, chance));
        }
        for (int i : new int[] {-2, 4, LEAST, GREATEST}) {
            refused("rests(0, " + i + ")", -1, x -> x.rests(0, i));
        }
    }

    private void numbersOutOfBounds() {
        LosersBooks made = recipe.get();
        for (int n : outside(1, 50)) {
            refused("give(" + n + ")", -1, x -> x.give(n));
        }
        for (int n : outside(1, 30)) {
            refused("years(" + n + ", 1)", -1, x -> x.years(n, 1));
            refused("shelf(0, " + n + ")", -1, x -> x.shelf(0, n));
        }
        for (int n : outside(1, 20)) {
            refused("scheme(0, " + n + ", 0)", -1, x -> x.scheme(0, n, 0));
        }
        for (int what : outside(0, 1)) {
            refused("scheme(0, 1, " + what + ")", -1, x -> x.scheme(0, 1, what));
        }
        for (int n : outside(0, 29)) {
            refused("told(0, 0, " + n + ")", -1, x -> x.told(0, 0, n));
        }
        for (int c : outside(0, 999)) {
            refused("shares(0, " + c + ")", -1, x -> x.shares(0, c));
        }
        for (int what : outside(0, 12)) {
            refused("all(" + what + ")", -1, x -> x.all(what));
        }
        for (int page : outside(0, made.count(8) - 1)) {
            refused("burn(" + page + ")", -1, x -> x.burn(page));
            refused("page(" + page + ", 0)", -1, x -> x.page(page, 0));
        }
        for (int i : outside(0, made.count(11) - 1)) {
            refused("log(" + i + ", 0)", HIDDEN, x -> x.log(i, 0));
        }
        for (int what : outside(0, 2)) {
            refused("page(0, " + what + ")", -1, x -> x.page(0, what));
            refused("log(0, " + what + ")", HIDDEN, x -> x.log(0, what));
        }
        for (int i : new int[] {-2, 10, LEAST, GREATEST}) {
            refused("biases(0, " + i + ")", -1, x -> x.biases(0, i));
        }
        for (int i : new int[] {-2, 21, LEAST, GREATEST}) {
            refused("truths(0, " + i + ")", -1, x -> x.truths(0, i));
        }
        if (made.count(12) == 0) {
            refused("undo()", -1, LosersBooks::undo);
        }
    }

    private void questions() {
        for (int what = 0; what <= 1; what++) {
            int of = what;
            if (recipe.get().count(3) > 0) {
                asked("run(0, " + of + ")", x -> x.run(0, of));
            }
            asked("scheme(1, 20, " + of + ")", x -> x.scheme(1, 20, of));
            asked("game(0, 1, 0, " + of + ")", x -> x.game(0, 1, 0, of));
            asked("force(" + of + ", 0)", x -> x.force(of, 0));
        }
        asked("wins(0)", x -> x.wins(0));
        asked("shelf(0, 30)", x -> x.shelf(0, 30));
        asked("shelf(1, 1)", x -> x.shelf(1, 1));
        asked("peace()", LosersBooks::peace);
        asked("last(0)", x -> x.last(0));
        asked("biases(0, -1)", x -> x.biases(0, -1));
        asked("truths(0, -1)", x -> x.truths(0, -1));
        asked("read(0)", x -> x.read(0));
        asked("rests(0, -1)", x -> x.rests(0, -1));
        asked("odds(0, 50, 50)", x -> x.odds(0, 50, 50));
        asked("shares(1, 999)", x -> x.shares(1, 999));
        asked("wars(0, 1)", x -> x.wars(0, 1));
        for (int what = 0; what <= 12; what++) {
            int of = what;
            asked("all(" + what + ")", x -> x.all(of));
        }
    }

    // ---- refusals of one state alone ----

    private void whenFull() {
        LosersBooks made = recipe.get();
        int[] want = {3, 2, 4, 4, 240, 0, 60, 999, 30, 0, 10, 60, 40};
        for (int what = 0; what < want.length; what++) {
            Check.due("full: count(" + what + ")", made.count(what), want[what]);
        }
        refused("feed of one byte", -1, x -> x.feed(0, 0, 0, 0, 1));
        refused("feed of twenty bytes", -1, x -> x.feed(-1, -1, -1, -1, -1));
        refused("feed of none", 240, x -> x.feed(0, 0, 0, 0, 0));
        refused("a fifth law", -1, x -> x.text(1));
        refused("told(1, 0, 9)", -1, x -> x.told(1, 0, 9));
        refused("told(2, 1, 29)", -1, x -> x.told(2, 1, 29));
        refused("give(1)", -1, x -> x.give(1));
        refused("give(50)", -1, x -> x.give(50));
        refused("arm(0)", -1, x -> x.arm(0));
        refused("teach(1)", -1, x -> x.teach(1));
        refused("swear(0)", -1, x -> x.swear(0));
        new RefusalsTest("full", RefusalsTest::fullOfCampaigns).refused("a fifth campaign", -1, x -> x.text(2));
    }

    private static LosersBooks fullOfCampaigns() {
        LosersBooks x = full();
        x.end(0);
        Check.feed(x, "y;y;y");
        return x;
    }

    private void whenLate() {
        Check.due("late: the year", recipe.get().count(6), 999);
        refused("year()", -2, LosersBooks::year);
        for (int n : new int[] {1, 2, 30}) {
            refused("years(" + n + ", 1)", -1, x -> x.years(n, 1));
        }
        refused("back()", -1, LosersBooks::back);
        refused("perform of a year", 0, x -> x.perform(0));
        RefusalsTest oneAhead = new RefusalsTest("one year ahead", RefusalsTest::oneAhead);
        for (int n : new int[] {2, 3, 30}) {
            oneAhead.refused("years(" + n + ", 1)", -1, x -> x.years(n, 1));
        }
    }

    private static LosersBooks oneAhead() {
        LosersBooks x = late();
        x.undo();
        return x;
    }

    private static void poor() {
        String[] realms = {"sc0;k;k;f", "sc1;k;k;f", "sc2;k;k;f", "sc3;k;k;f"};
        for (int coins = 0; coins < realms.length; coins++) {
            String realm = realms[coins];
            RefusalsTest test = new RefusalsTest(coins + " coins", () -> Check.realm(realm));
            if (coins < 2) {
                test.refused("arm(1)", -1, x -> x.arm(1));
            }
            if (coins < 3) {
                test.refused("teach(1)", -1, x -> x.teach(1));
            }
            test.refused("swear(1)", -1, x -> x.swear(1));
        }
        RefusalsTest bounds = new RefusalsTest("at their bounds", () -> Check.realm("sc99;km30b0s9;k;f"));
        bounds.refused("arm(0)", -1, x -> x.arm(0));
        bounds.refused("teach(0)", -1, x -> x.teach(0));
        bounds.refused("swear(0)", -1, x -> x.swear(0));
        bounds.refused("back()", -1, LosersBooks::back);
        bounds.refused("undo()", -1, LosersBooks::undo);
        bounds.refused("burn(0)", -1, x -> x.burn(0));
    }
}
