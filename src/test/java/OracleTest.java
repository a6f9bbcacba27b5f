import java.util.NoSuchElementException;
import java.util.Random;

/** Runs of calls drawn by fixed seeds: the class answers what the plain model answers. */
public final class OracleTest {
    private static final int RUNS = 1000;
    private static final int CALLS = 260;

    private final Random random;
    private final LosersBooks books = new LosersBooks();
    private final Model model = new Model();
    private final StringBuilder told = new StringBuilder();
    private String call = "";

    private OracleTest(long seed) {
        random = new Random(seed);
    }

    public static void main(String[] args) {
        for (int run = 0; run < RUNS; run++) {
            OracleTest test = new OracleTest(run);
            int before = Check.wrongs();
            test.go();
            if (Check.wrongs() > before) {
                System.out.println("run " + run + ":" + test.told);
                break;
            }
        }
        Check.end();
    }

    private void go() {
        int before = Check.wrongs();
        for (int i = 0; i < CALLS && Check.wrongs() == before; i++) {
            if (i == 3 || i > 3 && random.nextInt(120) == 0) {
                load(0, new Texts(random).realm());
            } else if (random.nextInt(25) == 0) {
                load(1, new Texts(random).law());
            } else if (random.nextInt(30) == 0) {
                load(2, new Texts(random).campaign());
            } else if (random.nextInt(20) == 0) {
                fault();
            } else {
                one(random.nextInt(46));
            }
        }
    }

    private void say(String name, long... values) {
        StringBuilder b = new StringBuilder(name).append('(');
        for (int i = 0; i < values.length; i++) {
            b.append(i == 0 ? "" : ", ").append(values[i]);
        }
        call = b.append(')').toString();
        told.append(' ').append(call);
    }

    private void due(long got, long want) {
        Check.due(call, got, want);
    }

    private void due(boolean got, boolean want) {
        Check.due(call, got, want);
    }

    /** A number from low - 1 to high + 1, the bounds themselves and beyond more seldom. */
    private int near(int low, int high) {
        if (random.nextInt(200) == 0) {
            return random.nextBoolean() ? Integer.MAX_VALUE : Integer.MIN_VALUE;
        }
        return random.nextInt(12) == 0 ? low - 1 + random.nextInt(2) * (high - low + 2) : low + random.nextInt(high - low + 1);
    }

    private int kingdom() {
        return near(0, Math.max(1, model.count(0) - 1));
    }

    private int field() {
        return near(0, Math.max(0, model.count(1) - 1));
    }

    private void feed(String text) {
        for (int from = 0; from < text.length(); from += 20) {
            int[] five = new int[5];
            for (int i = 0; i < 20; i++) {
                int b = from + i < text.length() ? text.charAt(from + i) : 0;
                five[i / 4] = five[i / 4] << 8 | b;
            }
            say("feed", five[0], five[1], five[2], five[3], five[4]);
            due(books.feed(five[0], five[1], five[2], five[3], five[4]), model.feed(five));
        }
    }

    private void clear() {
        say("end", 0);
        due(books.end(0), model.end(0));
    }

    private void load(int sort, String text) {
        clear();
        feed(text);
        say("text", sort);
        due(books.text(sort), model.text(sort));
        told.append(" [").append(text).append(']');
        if (sort == 1 && random.nextInt(3) > 0) {
            int law = model.count(2) - 1;
            say("law", law);
            due(books.law(law), model.law(law));
        }
    }

    private void fault() {
        Texts texts = new Texts(random);
        int sort = random.nextInt(3);
        String text = sort == 0 ? texts.realm() : sort == 1 ? texts.law() : texts.campaign();
        clear();
        feed(texts.spoilt(text));
        told.append(" [").append(model.tape).append(']');
        for (int s = -1; s <= 3; s++) {
            say("fault", s);
            due(books.fault(s), model.fault(s));
        }
    }

    private int thrownAsHidden(int k, int what) {
        try {
            return books.kingdom(k, what);
        } catch (NoSuchElementException e) {
            return Model.HIDDEN;
        }
    }

    private void one(int which) {
        if (which < 14) {
            act(which);
        } else if (which < 30) {
            ask(which);
        } else {
            look(which);
        }
    }

    private void act(int which) {
        int k = kingdom();
        int n;
        switch (which) {
            case 0: case 1: case 2: case 3:
                say("year");
                due(books.year(), model.year());
                break;
            case 4: case 5:
                say("hold", k);
                due(books.hold(k), model.hold(k));
                break;
            case 6:
                say("arm", k);
                due(books.arm(k), model.arm(k));
                break;
            case 7:
                say("teach", k);
                due(books.teach(k), model.teach(k));
                break;
            case 8:
                say("swear", k);
                due(books.swear(k), model.swear(k));
                break;
            case 9:
                n = near(0, Math.max(0, model.count(8) - 1));
                say("burn", n);
                due(books.burn(n), model.burn(n));
                break;
            case 10:
                n = near(1, 50);
                say("give", n);
                due(books.give(n), model.give(n));
                break;
            case 11: case 12:
                n = random.nextInt(3) == 0 ? 30 : near(1, 30);
                long seed = random.nextLong();
                say("years", n, seed);
                due(books.years(n, seed), model.years(n, seed));
                break;
            default:
                for (int i = random.nextInt(6); i >= 0; i--) {
                    say("undo");
                    due(books.undo(), model.undo());
                }
                break;
        }
    }

    private void ask(int which) {
        int k = kingdom();
        int f = field();
        int n = near(0, 4);
        switch (which) {
            case 14:
                n = near(1, 30);
                say("shelf", k, n);
                due(books.shelf(k, n), model.shelf(k, n));
                break;
            case 15:
                n = near(1, 20);
                say("scheme", k, n, 0);
                due(books.scheme(k, n, 0), model.scheme(k, n, 0));
                say("scheme", k, n, 1);
                due(books.scheme(k, n, 1), model.scheme(k, n, 1));
                say("scheme", k, n, 2);
                due(books.scheme(k, n, 2), model.scheme(k, n, 2));
                break;
            case 16:
                say("peace");
                due(books.peace(), model.peace());
                break;
            case 17: case 18:
                n = random.nextInt(3) == 0 ? near(0, 29) : 5 + random.nextInt(8);
                say("told", k, f, n);
                due(books.told(k, f, n), model.told(k, f, n));
                break;
            case 19:
                fits(k, f);
                break;
            case 20:
                say("read", f);
                due(books.read(f), model.read(f));
                break;
            case 21:
                game(f);
                break;
            case 22:
                int a = near(0, 100);
                int b = near(0, 100);
                say("odds", f, a, b);
                due(books.odds(f, a, b), model.odds(f, a, b));
                break;
            case 23:
                n = near(0, 999);
                say("shares", k, n);
                due(books.shares(k, n), model.shares(k, n));
                break;
            case 24:
                n = near(0, 3);
                for (int what = -1; what <= 2; what++) {
                    say("run", n, what);
                    due(books.run(n, what), model.run(n, what));
                }
                break;
            case 25:
                n = near(0, 3);
                say("perform", n);
                due(books.perform(n), model.perform(n));
                break;
            case 26:
                say("image");
                due(books.image(), model.image());
                break;
            case 27:
                if (random.nextInt(3) == 0) {
                    say("back");
                    due(books.back(), model.back());
                }
                break;
            case 28:
                n = near(-1, 3);
                say("law", n);
                due(books.law(n), model.law(n));
                break;
            default:
                n = near(0, 9);
                say("intrigue", n);
                due(books.intrigue(n), model.intrigue(n));
                break;
        }
    }

    private void fits(int k, int f) {
        for (int i = -2; i <= 10; i += 1 + random.nextInt(3)) {
            say("biases", k, i);
            due(books.biases(k, i), model.biases(k, i));
        }
        int i = near(-1, 21);
        say("truths", f, -1);
        due(books.truths(f, -1), model.truths(f, -1));
        say("truths", f, i);
        due(books.truths(f, i), model.truths(f, i));
    }

    private void game(int f) {
        for (int code = 0; code < 8; code++) {
            say("game", f, code & 1, code >> 1 & 1, code >> 2);
            due(books.game(f, code & 1, code >> 1 & 1, code >> 2), model.game(f, code & 1, code >> 1 & 1, code >> 2));
        }
        int x = near(0, 1);
        int y = near(0, 1);
        int what = near(0, 1);
        say("game", f, x, y, what);
        due(books.game(f, x, y, what), model.game(f, x, y, what));
        for (int i = -2; i <= 4; i++) {
            say("rests", f, i);
            due(books.rests(f, i), model.rests(f, i));
        }
    }

    private void look(int which) {
        int k = kingdom();
        int f = field();
        switch (which % 8) {
            case 0:
                for (int what = -1; what <= 6; what++) {
                    say("kingdom", k, what);
                    due(thrownAsHidden(k, what), model.kingdom(k, what));
                }
                break;
            case 1:
                for (int what = -1; what <= 4; what++) {
                    say("field", f, what);
                    due(books.field(f, what), model.field(f, what));
                }
                break;
            case 2:
                for (int what = -1; what <= 13; what++) {
                    say("all", what);
                    due(books.all(what), model.all(what));
                    say("count", what);
                    due(books.count(what), model.count(what));
                }
                break;
            case 3:
                int i = random.nextInt(3) == 0 ? near(0, 60) : near(0, 2);
                for (int what = -1; what <= 3; what++) {
                    say("log", i, what);
                    due(books.log(i, what), model.log(i, what));
                }
                break;
            case 4:
                int p = near(0, Math.max(0, model.count(8) - 1));
                for (int what = -1; what <= 3; what++) {
                    say("page", p, what);
                    due(books.page(p, what), model.page(p, what));
                }
                break;
            case 5:
                int other = kingdom();
                say("wars", k, other);
                due(books.wars(k, other), model.wars(k, other));
                say("last", f);
                due(books.last(f), model.last(f));
                break;
            case 6:
                say("force", k, f);
                due(books.force(k, f), model.force(k, f));
                say("wins", f);
                due(books.wins(f), model.wins(f));
                break;
            default:
                int c = near(0, 3);
                int s = near(0, 16);
                for (int what = -1; what <= 2; what++) {
                    say("step", c, s, what);
                    due(books.step(c, s, what), model.step(c, s, what));
                }
                int n = near(0, Math.max(0, model.count(4)));
                say("end", n);
                due(books.end(n), model.end(n));
                break;
        }
    }
}
