import java.util.NoSuchElementException;
import java.util.function.Supplier;
import java.util.function.ToLongFunction;

/** Two objects made alike, one of which gets a call more: whether the call changed something shows in what both answer. */
final class Twins {
    /** What stands for the answer of a call that throws NoSuchElementException. */
    static final long THROWN = Long.MIN_VALUE;
    /** What stands for the answer of a call that throws anything else. */
    static final long WRONGLY_THROWN = Long.MIN_VALUE + 1;

    private Twins() {
    }

    /** The call answers so, and nothing is other than without it. */
    static void same(String name, Supplier<LosersBooks> recipe, ToLongFunction<LosersBooks> call, long answer) {
        LosersBooks one = recipe.get();
        Check.due(name, answerOf(call, one), answer);
        compare(name, present(one), present(recipe.get()));
        LosersBooks other = recipe.get();
        answerOf(call, other);
        compare(name, past(other), past(recipe.get()));
    }

    private static void compare(String name, String got, String want) {
        if (!got.equals(want)) {
            int at = 0;
            while (at < Math.min(got.length(), want.length()) && got.charAt(at) == want.charAt(at)) {
                at++;
            }
            System.out.println(name + " changed: .." + got.substring(Math.max(0, at - 30), Math.min(got.length(), at + 30))
                + ".. for .." + want.substring(Math.max(0, at - 30), Math.min(want.length(), at + 30)) + "..");
        }
        Check.due(name + " changes nothing", got.equals(want), true);
    }

    static long answerOf(ToLongFunction<LosersBooks> call, LosersBooks x) {
        try {
            return call.applyAsLong(x);
        } catch (NoSuchElementException e) {
            return THROWN;
        } catch (RuntimeException e) {
            return WRONGLY_THROWN;
        }
    }

    /** What it answers of how it is now; some 400 calls at most. */
    private static String present(LosersBooks x) {
        StringBuilder b = new StringBuilder();
        counts(b, x);
        int kingdoms = x.count(0);
        for (int k = 0; k < kingdoms; k++) {
            b.append("\nkingdom ").append(k);
            for (int what = 0; what <= 5; what++) {
                b.append(' ').append(x.kingdom(k, what));
            }
            b.append(' ').append(x.biases(k, -1)).append(' ').append(x.biases(k, 0));
        }
        int fields = x.count(1);
        for (int f = 0; f < fields; f++) {
            b.append("\nfield ").append(f);
            for (int what = 0; what <= 3; what++) {
                b.append(' ').append(x.field(f, what));
            }
            b.append(' ').append(x.truths(f, -1)).append(' ').append(x.truths(f, 0));
        }
        pages(b, x);
        b.append("\nall");
        for (int what = 0; what <= 12; what++) {
            b.append(' ').append(x.all(what));
        }
        b.append("\nfaults");
        for (int sort = 0; sort <= 2; sort++) {
            b.append(' ').append(x.fault(sort));
        }
        return b.toString();
    }

    private static void counts(StringBuilder b, LosersBooks x) {
        b.append("counts");
        for (int what = 0; what <= 12; what++) {
            b.append(' ').append(x.count(what));
        }
    }

    private static void pages(StringBuilder b, LosersBooks x) {
        int pages = x.count(8);
        b.append("\npages");
        for (int i = 0; i < pages; i++) {
            b.append(' ').append(x.page(i, 0)).append(',').append(x.page(i, 1)).append(',').append(x.page(i, 2));
        }
        int lines = x.count(11);
        b.append("\nlog");
        for (int i = 0; i < lines; i++) {
            b.append(' ').append(x.log(i, i % 3)).append(',').append(x.log(i, (i + 1) % 3));
        }
    }

    /** What it answers when it is brought back, its steps and laws, and all its acts are undone; some 400 calls at most. */
    private static String past(LosersBooks x) {
        StringBuilder b = new StringBuilder();
        int campaigns = x.count(3);
        for (int c = 0; c < campaigns; c++) {
            b.append("\ncampaign ").append(c);
            for (int i = 0; i < 6; i++) {
                b.append(' ').append(x.step(c, i, 0)).append(',').append(x.step(c, i, 1));
            }
        }
        int kingdoms = x.count(0);
        b.append("\nundone");
        for (int left = x.undo(); left >= 0; left = x.undo()) {
            b.append(' ').append(left).append(':').append(x.count(6)).append(',').append(x.count(7)).append(',').append(x.count(8));
            for (int k = 0; k < kingdoms; k++) {
                b.append(',').append(x.kingdom(k, left % 6));
            }
        }
        int laws = x.count(2);
        for (int law = -1; law < laws; law++) {
            x.law(law);
            b.append("\nforces by ").append(law).append(' ').append(x.force(0, 0)).append(',').append(x.force(1, 0));
        }
        b.append("\nback ").append(x.back()).append(' ');
        counts(b, x);
        b.append("\nthe text is ").append(x.text(2)).append(x.text(1)).append(x.text(0)).append(' ');
        counts(b, x);
        return b.toString();
    }
}
