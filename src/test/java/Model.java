import java.util.ArrayDeque;
import java.util.ArrayList;
import java.util.HashSet;
import java.util.List;
import java.util.Set;

/**
 * The document once more, written as plainly as can be and in other ways than the class (texts as strings, faults by
 * grammars followed in all ways at once, biases by trying all): OracleTest holds the class against it.
 */
final class Model {
    static final int NONE = -1;
    static final int HIDDEN = -1000000;

    /** A realm's fixed part. */
    static final class Land {
        int rout = 1;
        int coins = 20;
        List<int[]> kingdoms = new ArrayList<>(); // might, bias, style
        List<int[]> fields = new ArrayList<>(); // a, b, ground, fell
    }

    /** What acts change. */
    static final class State {
        List<int[]> kings = new ArrayList<>(); // might, bias, style, wins, holds
        List<int[]> pages = new ArrayList<>(); // field, who, tells
        List<int[]> log = new ArrayList<>();
        int coins;
        int year;

        State copy() {
            State s = new State();
            for (int[] k : kings) {
                s.kings.add(k.clone());
            }
            s.pages.addAll(pages);
            s.log.addAll(log);
            s.coins = coins;
            s.year = year;
            return s;
        }

        int pagesOf(int k) {
            int n = 0;
            for (int[] p : pages) {
                n += p[1] == k ? 1 : 0;
            }
            return n;
        }
    }

    String tape = "";
    Land land = null;
    State now = new State();
    State image = null;
    ArrayDeque<State> acts = new ArrayDeque<>();
    List<String> laws = new ArrayList<>();
    List<String> campaigns = new ArrayList<>();
    int holds = NONE;
    int intrigue = 2;
    List<int[]> told = new ArrayList<>();
    private List<int[][]> known = null;

    // ---- texts ----

    int feed(int... five) {
        StringBuilder more = new StringBuilder(tape);
        for (int v : five) {
            for (int shift = 24; shift >= 0; shift -= 8) {
                char c = (char) (v >>> shift & 255);
                if (c != 0) {
                    more.append(c);
                }
            }
        }
        if (more.length() > 240) {
            return NONE;
        }
        tape = more.toString();
        return tape.length();
    }

    boolean end(int n) {
        if (n < 0 || n > tape.length()) {
            return false;
        }
        tape = tape.substring(0, n);
        return true;
    }

    int fault(int sort) {
        switch (sort) {
            case 0:
                return realmFault(tape, new Land());
            case 1:
                return grammarFault(tape, "Law");
            case 2:
                return grammarFault(tape, "Steps1");
            default:
                return -2;
        }
    }

    /** Cuts the text at its ; and looks at each piece by itself. */
    static int realmFault(String text, Land land) {
        int from = 0;
        boolean rules = false;
        String[] clauses = text.split(";", -1);
        for (String clause : clauses) {
            int i = 0;
            while (i < clause.length() && clause.charAt(i) == ' ') {
                i++;
            }
            if (i == clause.length()) {
                return from + i;
            }
            char kind = clause.charAt(i);
            boolean bad = kind != 's' && kind != 'k' && kind != 'f' || kind == 's' && rules
                || kind == 'k' && land.kingdoms.size() == 4 || kind == 'f' && land.fields.size() == 8;
            if (bad) {
                return from + i;
            }
            String letters = kind == 's' ? "wc" : kind == 'k' ? "mbs" : "abgn";
            int[] most = kind == 's' ? new int[] {9, 99} : kind == 'k' ? new int[] {30, 9, 9} : new int[] {3, 3, 9, 20};
            int[] value = kind == 's' ? new int[] {1, 20} : kind == 'k' ? new int[] {8, 2, 3} : new int[] {0, 1, 0, 7};
            int f = items(clause, i + 1, letters, most, value);
            if (f >= 0) {
                return from + f;
            }
            if (kind == 's') {
                rules = true;
                land.rout = value[0];
                land.coins = value[1];
            } else if (kind == 'k') {
                land.kingdoms.add(value);
            } else {
                land.fields.add(value);
            }
            from += clause.length() + 1;
        }
        boolean well = land.kingdoms.size() >= 2 && land.fields.size() >= 1;
        for (int[] f : land.fields) {
            well &= f[0] != f[1] && Math.max(f[0], f[1]) < land.kingdoms.size();
        }
        return well ? NONE : text.length();
    }

    private static int items(String clause, int from, String letters, int[] most, int[] value) {
        Set<Character> seen = new HashSet<>();
        int i = from;
        while (true) {
            while (i < clause.length() && clause.charAt(i) == ' ') {
                i++;
            }
            if (i == clause.length()) {
                return NONE;
            }
            char letter = clause.charAt(i);
            if (letters.indexOf(letter) < 0 || !seen.add(letter)) {
                return i;
            }
            i++;
            while (i < clause.length() && clause.charAt(i) == ' ') {
                i++;
            }
            int start = i;
            while (i < clause.length() && "0123456789".indexOf(clause.charAt(i)) >= 0) {
                i++;
            }
            if (i == start) {
                return i;
            }
            if (i - start > 2) {
                return start + 2;
            }
            int n = Integer.parseInt(clause.substring(start, i));
            if (n > most[letters.indexOf(letter)]) {
                return i - 1;
            }
            value[letters.indexOf(letter)] = n;
        }
    }

    /** Follows every way in which the text may go on at once, each a list of what is still to come. */
    static int grammarFault(String text, String start) {
        Set<List<String>> ways = new HashSet<>();
        ways.add(List.of(start));
        for (int i = 0; i < text.length(); i++) {
            char c = text.charAt(i);
            Set<List<String>> next = new HashSet<>();
            for (List<String> way : ways) {
                if (c == ' ') {
                    boolean inNumber = !way.isEmpty() && way.get(0).startsWith("Digits");
                    next.add(inNumber ? way.subList(1, way.size()) : way);
                } else {
                    follow(way, c, next, 0);
                }
            }
            if (next.isEmpty()) {
                return i;
            }
            ways = next;
        }
        for (List<String> way : ways) {
            if (canEnd(way)) {
                return NONE;
            }
        }
        return text.length();
    }

    private static boolean canEnd(List<String> way) {
        for (String symbol : way) {
            boolean nothing = false;
            for (String[] form : forms(symbol)) {
                nothing |= form.length == 0;
            }
            if (!nothing) {
                return false;
            }
        }
        return true;
    }

    private static void follow(List<String> way, char c, Set<List<String>> next, int depth) {
        if (way.isEmpty() || depth > 60) {
            return;
        }
        String symbol = way.get(0);
        List<String> rest = way.subList(1, way.size());
        if (symbol.startsWith("'")) {
            if (symbol.indexOf(c, 1) >= 0) {
                next.add(new ArrayList<>(rest));
            }
            return;
        }
        for (String[] form : forms(symbol)) {
            List<String> longer = new ArrayList<>(List.of(form));
            longer.addAll(rest);
            follow(longer, c, next, depth + 1);
        }
    }

    private static String[][] all(String... forms) {
        String[][] out = new String[forms.length][];
        for (int i = 0; i < forms.length; i++) {
            out[i] = forms[i].isEmpty() ? new String[0] : forms[i].split(" ");
        }
        return out;
    }

    /** What a symbol may stand for; a number behind its name counts depth, digits or steps. */
    private static String[][] forms(String symbol) {
        if (symbol.startsWith("'")) {
            return new String[][] {{symbol}};
        }
        String name = symbol.replaceAll("[0-9]", "");
        int d = symbol.equals(name) ? 0 : Integer.parseInt(symbol.substring(name.length()));
        int e = d + 1;
        switch (name) {
            case "Law":
                return all("Clause Laws");
            case "Laws":
                return all("", "'; Clause Laws");
            case "Clause":
                return all("'y ': Sum0", "'y ': Cond0 '? Sum0");
            case "Cond":
                return all("Truth" + d + " Conds" + d);
            case "Conds":
                return all("", "'| Truth" + d + " Conds" + d);
            case "Truth":
                return all("Unit" + d + " Truths" + d);
            case "Truths":
                return all("", "'& Unit" + d + " Truths" + d);
            case "Unit":
                return d == 6 ? all("Sum6 '=<> Sum6")
                    : all("Sum" + d + " '=<> Sum" + d, "'! Unit" + e, "'( Cond" + e + " ')");
            case "Sum":
                return all("Term" + d + " Terms" + d);
            case "Terms":
                return all("", "'+- Term" + d + " Terms" + d);
            case "Term":
                return all("Atom" + d + " Atoms" + d);
            case "Atoms":
                return all("", "'*/ Atom" + d + " Atoms" + d);
            case "Atom":
                return d == 6 ? all("'mgspwd", "'0123456789 Digits3")
                    : all("'mgspwd", "'0123456789 Digits3", "'[ Sum" + e + " ']");
            case "Digits":
                return d == 0 ? all("") : all("", "'0123456789 Digits" + (d - 1));
            case "Steps":
                return all("Step More" + d);
            case "More":
                return d == 16 ? all("") : all("", "'; Steps" + e);
            case "Step":
                return all("'y", "'hat '0123456789");
            default:
                throw new IllegalStateException(symbol);
        }
    }

    int text(int sort) {
        if (sort < 0 || sort > 2 || fault(sort) != NONE) {
            return NONE;
        }
        if (sort == 0) {
            land = new Land();
            realmFault(tape, land);
            tape = "";
            now = new State();
            for (int[] k : land.kingdoms) {
                now.kings.add(new int[] {k[0], k[1], k[2], 0, 0});
            }
            now.coins = land.coins;
            image = null;
            acts.clear();
            told.clear();
            known = null;
            return land.kingdoms.size();
        }
        List<String> kept = sort == 1 ? laws : campaigns;
        if (kept.size() == 4) {
            return NONE;
        }
        kept.add(tape.replace(" ", ""));
        tape = "";
        return kept.size() - 1;
    }

    // ---- laws, by cutting the text at its loosest sign ----

    static int worth(String law, int[] letters) {
        for (String clause : law.split(";")) {
            String body = clause.substring(2);
            int q = body.indexOf('?');
            if (q < 0 || holds(body.substring(0, q), letters)) {
                return sum(body.substring(q + 1), letters);
            }
        }
        return 0;
    }

    /** The last place outside brackets with one of these signs, or -1. */
    private static int loosest(String s, String signs) {
        int depth = 0;
        for (int i = s.length() - 1; i >= 0; i--) {
            char c = s.charAt(i);
            if (c == ')' || c == ']') {
                depth++;
            } else if (c == '(' || c == '[') {
                depth--;
            } else if (depth == 0 && signs.indexOf(c) >= 0) {
                return i;
            }
        }
        return -1;
    }

    private static boolean holds(String s, int[] letters) {
        int i = loosest(s, "|");
        if (i >= 0) {
            return holds(s.substring(0, i), letters) | holds(s.substring(i + 1), letters);
        }
        i = loosest(s, "&");
        if (i >= 0) {
            return holds(s.substring(0, i), letters) & holds(s.substring(i + 1), letters);
        }
        if (s.charAt(0) == '!') {
            return !holds(s.substring(1), letters);
        }
        if (s.charAt(0) == '(') {
            return holds(s.substring(1, s.length() - 1), letters);
        }
        i = loosest(s, "=<>");
        int left = sum(s.substring(0, i), letters);
        int right = sum(s.substring(i + 1), letters);
        return s.charAt(i) == '=' ? left == right : s.charAt(i) == '<' ? left < right : left > right;
    }

    private static int sum(String s, int[] letters) {
        int i = loosest(s, "+-");
        if (i < 0) {
            i = loosest(s, "*/");
        }
        if (i >= 0) {
            long a = sum(s.substring(0, i), letters);
            long b = sum(s.substring(i + 1), letters);
            char c = s.charAt(i);
            long v = c == '+' ? a + b : c == '-' ? a - b : c == '*' ? a * b : b == 0 ? 0 : a / b;
            return (int) Math.max(-1000000, Math.min(1000000, v));
        }
        if (s.charAt(0) == '[') {
            return sum(s.substring(1, s.length() - 1), letters);
        }
        int letter = "mgspwd".indexOf(s.charAt(0));
        return letter >= 0 ? letters[letter] : Integer.parseInt(s);
    }

    // ---- years ----

    boolean isKingdom(int k) {
        return land != null && k >= 0 && k < land.kingdoms.size();
    }

    boolean isField(int f) {
        return land != null && f >= 0 && f < land.fields.size();
    }

    int forceOf(State s, int field, int side, boolean back) {
        int[] f = land.fields.get(field);
        int k = f[side];
        int[] king = s.kings.get(k);
        int ground = side == 0 ? f[2] : 0;
        int w = holds == NONE ? king[0] + ground - king[3] / 2
            : worth(laws.get(holds), new int[] {king[0], ground, king[2], s.pagesOf(k), king[3], s.year});
        w = Math.max(0, Math.min(60, w));
        return back ? w / 2 : w;
    }

    /** -1 the first wins, 0 drawn, 1 the second. */
    int compare(State s, int field, boolean x, boolean y) {
        return Integer.compare(forceOf(s, field, 1, y), forceOf(s, field, 0, x));
    }

    int compareNow(State s, int field) {
        int[] f = land.fields.get(field);
        return compare(s, field, s.kings.get(f[0])[4] == 1, s.kings.get(f[1])[4] == 1);
    }

    int pass(State s) {
        int n = s.year % land.fields.size();
        int[] f = land.fields.get(n);
        int c = compareNow(s, n);
        int[] line = {n, NONE, NONE};
        if (c != 0) {
            int[] winner = s.kings.get(c < 0 ? f[0] : f[1]);
            int beaten = c < 0 ? f[1] : f[0];
            int[] loser = s.kings.get(beaten);
            winner[3] = Math.min(999, winner[3] + 1);
            loser[0] = Math.max(0, loser[0] - land.rout);
            loser[2] = Math.min(9, loser[2] + 1);
            line = new int[] {n, beaten, f[3] + loser[1]};
            s.pages.add(line);
            if (s.pages.size() > 30) {
                s.pages.remove(0);
            }
            s.coins = Math.min(999, s.coins + 1);
        }
        s.log.add(line);
        if (s.log.size() > 60) {
            s.log.remove(0);
        }
        s.year++;
        return line[1];
    }

    void remember() {
        acts.addLast(now.copy());
        if (acts.size() > 40) {
            acts.removeFirst();
        }
    }

    /** HIDDEN: it can't be; else what the call answers. */
    int tryStep(State s, char kind, int k, boolean asAct) {
        if (kind == 'y' ? land == null || s.year >= 999 : !isKingdom(k)) {
            return HIDDEN;
        }
        int[] king = kind == 'y' ? null : s.kings.get(k);
        int price = kind == 'a' ? 2 : kind == 't' ? 3 : kind == 's' ? 4 : 0;
        boolean full = kind == 'a' && king[0] >= 30 || kind == 't' && king[2] >= 9 || kind == 's' && king[1] <= 0;
        if (full || s.coins < price) {
            return HIDDEN;
        }
        if (asAct) {
            remember();
        }
        s.coins -= price;
        switch (kind) {
            case 'y':
                return pass(s);
            case 'h':
                return king[4] ^= 1;
            case 'a':
                return ++king[0];
            case 't':
                return ++king[2];
            default:
                return --king[1];
        }
    }

    private int refusedAs(int answer, int refused) {
        return answer == HIDDEN ? refused : answer;
    }

    int year() {
        return refusedAs(tryStep(now, 'y', NONE, true), -2);
    }

    int hold(int k) {
        return refusedAs(tryStep(now, 'h', k, true), NONE);
    }

    int arm(int k) {
        return refusedAs(tryStep(now, 'a', k, true), NONE);
    }

    int teach(int k) {
        return refusedAs(tryStep(now, 't', k, true), NONE);
    }

    int swear(int k) {
        return refusedAs(tryStep(now, 's', k, true), NONE);
    }

    int burn(int page) {
        if (page < 0 || page >= now.pages.size()) {
            return NONE;
        }
        remember();
        now.pages.remove(page);
        return now.pages.size();
    }

    int give(int n) {
        if (land == null || n < 1 || n > 50 || now.coins + n > 999) {
            return NONE;
        }
        remember();
        return now.coins += n;
    }

    private long x;

    private int draw(int j) {
        x = x * 6364136223846793005L + 1442695040888963407L;
        return (int) ((x >>> 33) % j);
    }

    int years(int n, long seed) {
        if (land == null || n < 1 || n > 30 || now.year + n > 999) {
            return NONE;
        }
        x = seed;
        for (int i = 0; i < n; i++) {
            remember();
            if (draw(10) < intrigue) {
                now.kings.get(draw(now.kings.size()))[4] ^= 1;
            }
            if (draw(10) >= 7) {
                int[] k = now.kings.get(draw(now.kings.size()));
                k[0] = Math.min(30, k[0] + 2);
            }
            pass(now);
        }
        return now.year;
    }

    int undo() {
        if (acts.isEmpty()) {
            return NONE;
        }
        now = acts.removeLast();
        return acts.size();
    }

    int image() {
        if (land == null) {
            return NONE;
        }
        image = now.copy();
        return now.year;
    }

    int back() {
        if (image == null) {
            return NONE;
        }
        now = image.copy();
        acts.clear();
        return now.year;
    }

    // ---- looking ----

    /** HIDDEN stands for the exception. */
    int kingdom(int k, int what) {
        if (!isKingdom(k) || what < 0 || what > 5) {
            return HIDDEN;
        }
        int[] king = now.kings.get(k);
        return what == 4 ? now.pagesOf(k) : what == 5 ? king[4] : king[what];
    }

    int field(int f, int what) {
        return isField(f) && what >= 0 && what < 4 ? land.fields.get(f)[what] : NONE;
    }

    boolean law(int law) {
        if (law < NONE || law >= laws.size()) {
            return false;
        }
        holds = law;
        return true;
    }

    boolean intrigue(int v) {
        if (v < 0 || v > 9 || v == intrigue) {
            return false;
        }
        intrigue = v;
        return true;
    }

    int log(int i, int what) {
        boolean there = i >= 0 && i < now.log.size() && what >= 0 && what < 3;
        return there ? now.log.get(now.log.size() - 1 - i)[what] : HIDDEN;
    }

    int page(int i, int what) {
        return i >= 0 && i < now.pages.size() && what >= 0 && what < 3 ? now.pages.get(i)[what] : NONE;
    }

    int step(int c, int i, int what) {
        if (c < 0 || c >= campaigns.size() || what < 0 || what > 1) {
            return HIDDEN;
        }
        String[] steps = campaigns.get(c).split(";");
        if (i < 0 || i >= steps.length) {
            return HIDDEN;
        }
        return what == 0 ? "yhat".indexOf(steps[i].charAt(0)) : steps[i].length() == 1 ? NONE : steps[i].charAt(1) - '0';
    }

    int run(int c, int what) {
        if (c < 0 || c >= campaigns.size() || land == null || what < 0 || what > 1) {
            return HIDDEN;
        }
        State s = now.copy();
        int pages = 0;
        int done = 0;
        for (String step : campaigns.get(c).split(";")) {
            int answer = tryStep(s, step.charAt(0), step.length() > 1 ? step.charAt(1) - '0' : NONE, false);
            if (answer == HIDDEN) {
                return what == 0 ? done : pages;
            }
            pages += step.charAt(0) == 'y' && answer != NONE ? 1 : 0;
            done++;
        }
        return what == 0 ? NONE : pages;
    }

    int perform(int c) {
        if (c < 0 || c >= campaigns.size() || land == null) {
            return NONE;
        }
        int done = 0;
        for (String step : campaigns.get(c).split(";")) {
            if (tryStep(now, step.charAt(0), step.length() > 1 ? step.charAt(1) - '0' : NONE, true) == HIDDEN) {
                break;
            }
            done++;
        }
        return done;
    }

    int force(int k, int f) {
        if (!isKingdom(k) || !isField(f)) {
            return NONE;
        }
        for (int side = 0; side < 2; side++) {
            if (land.fields.get(f)[side] == k) {
                return forceOf(now, f, side, now.kings.get(k)[4] == 1);
            }
        }
        return NONE;
    }

    int wins(int f) {
        if (!isField(f)) {
            return -2;
        }
        int c = compareNow(now, f);
        return c == 0 ? NONE : land.fields.get(f)[c < 0 ? 0 : 1];
    }

    int shelf(int k, int n) {
        if (!isKingdom(k) || n < 1 || n > 30) {
            return NONE;
        }
        State s = now.copy();
        for (int y = 0; y <= 60; y++) {
            if (s.pagesOf(k) >= n) {
                return y;
            }
            pass(s);
        }
        return NONE;
    }

    int scheme(int k, int n, int what) {
        if (!isKingdom(k) || n < 1 || n > 20 || what < 0 || what > 1) {
            return NONE;
        }
        int[] best = null;
        for (int bits = 0; bits < 1 << now.kings.size(); bits++) {
            State s = now.copy();
            for (int j = 0; j < s.kings.size(); j++) {
                s.kings.get(j)[4] = bits >> j & 1;
            }
            for (int y = 0; y < n; y++) {
                pass(s);
            }
            int[] one = {-s.pagesOf(k), Integer.bitCount(bits), bits};
            if (best == null || java.util.Arrays.compare(one, best) < 0) {
                best = one;
            }
        }
        return what == 0 ? best[2] : -best[0];
    }

    int peace() {
        if (land == null) {
            return NONE;
        }
        State s = now.copy();
        for (int y = 1; y <= 60; y++) {
            if (pass(s) == NONE) {
                return y;
            }
        }
        return NONE;
    }

    int last(int f) {
        if (!isField(f)) {
            return NONE;
        }
        int y = 1;
        while ((now.year + y - 1) % land.fields.size() != f) {
            y++;
        }
        return y;
    }

    // ---- told ----

    int told(int k, int f, int n) {
        if (!isKingdom(k) || !isField(f) || n < 0 || n > 29 || told.size() == 10) {
            return NONE;
        }
        told.add(new int[] {k, f, n});
        known = null;
        return told.size();
    }

    /** All biases of all that fit, each with the truths that follow (-1: any). */
    private List<int[][]> fitting() {
        if (known == null) {
            known = tryAll();
        }
        return known;
    }

    private List<int[][]> tryAll() {
        List<int[][]> out = new ArrayList<>();
        int kingdoms = land.kingdoms.size();
        int all = (int) Math.pow(10, kingdoms);
        for (int code = 0; code < all; code++) {
            int[] b = new int[kingdoms];
            for (int k = 0, rest = code; k < kingdoms; k++, rest /= 10) {
                b[k] = rest % 10;
            }
            int[] t = new int[land.fields.size()];
            java.util.Arrays.fill(t, -1);
            boolean well = true;
            for (int[] one : told) {
                int truth = one[2] - b[one[0]];
                well &= truth >= 0 && truth <= 20 && (t[one[1]] == -1 || t[one[1]] == truth);
                t[one[1]] = truth;
            }
            if (well) {
                out.add(new int[][] {b, t});
            }
        }
        return out;
    }

    private static int nth(Set<Integer> values, int i) {
        List<Integer> sorted = new ArrayList<>(values);
        java.util.Collections.sort(sorted);
        return i == NONE ? sorted.size() : i >= 0 && i < sorted.size() ? sorted.get(i) : NONE;
    }

    int biases(int k, int i) {
        if (!isKingdom(k)) {
            return NONE;
        }
        Set<Integer> values = new HashSet<>();
        for (int[][] one : fitting()) {
            values.add(one[0][k]);
        }
        return nth(values, i);
    }

    int truths(int f, int i) {
        if (!isField(f)) {
            return NONE;
        }
        Set<Integer> values = new HashSet<>();
        for (int[][] one : fitting()) {
            for (int t = 0; t <= 20; t++) {
                if (one[1][f] == -1 || one[1][f] == t) {
                    values.add(t);
                }
            }
        }
        return nth(values, i);
    }

    int read(int f) {
        if (!isField(f)) {
            return NONE;
        }
        int[][] tells = new int[land.kingdoms.size()][30];
        List<int[][]> fitting = fitting();
        if (fitting.isEmpty()) {
            return NONE;
        }
        for (int[][] one : fitting) {
            for (int t = 0; t <= 20; t++) {
                if (one[1][f] == -1 || one[1][f] == t) {
                    for (int k = 0; k < tells.length; k++) {
                        tells[k][t + one[0][k]]++;
                    }
                }
            }
        }
        int best = NONE;
        int fewest = Integer.MAX_VALUE;
        for (int k = 0; k < tells.length; k++) {
            int most = 0;
            for (int n : tells[k]) {
                most = Math.max(most, n);
            }
            if (most < fewest) {
                fewest = most;
                best = k;
            }
        }
        return best;
    }

    // ---- games ----

    int game(int f, int x, int y, int what) {
        if (!isField(f) || x < 0 || x > 1 || y < 0 || y > 1 || what < 0 || what > 1) {
            return HIDDEN;
        }
        int c = compare(now, f, x == 1, y == 1);
        int less = what == 0 ? x : y;
        if (c == 0) {
            return -less;
        }
        boolean won = c < 0 == (what == 0);
        return (won ? 4 : now.kings.get(land.fields.get(f)[what])[2] + 2) - less;
    }

    int rests(int f, int i) {
        if (!isField(f)) {
            return NONE;
        }
        Set<Integer> values = new HashSet<>();
        for (int x = 0; x < 2; x++) {
            for (int y = 0; y < 2; y++) {
                boolean better = game(f, 1 - x, y, 0) > game(f, x, y, 0) || game(f, x, 1 - y, 1) > game(f, x, y, 1);
                if (!better) {
                    values.add(10 * x + y);
                }
            }
        }
        return nth(values, i);
    }

    int odds(int f, int a, int b) {
        if (!isField(f) || a < 0 || a > 100 || b < 0 || b > 100) {
            return NONE;
        }
        long parts = 0;
        for (int x = 0; x < 2; x++) {
            for (int y = 0; y < 2; y++) {
                if (compare(now, f, x == 1, y == 1) > 0) {
                    parts += 100000L * (x == 1 ? a : 100 - a) * (y == 1 ? b : 100 - b);
                }
            }
        }
        return (int) parts;
    }

    int shares(int k, int c) {
        if (!isKingdom(k) || c < 0 || c > 999) {
            return NONE;
        }
        return now.pages.isEmpty() ? 0 : c * now.pagesOf(k) / now.pages.size();
    }

    int all(int what) {
        if (land == null || what < 0 || what > 12) {
            return NONE;
        }
        int best = 0;
        int sum = 0;
        int never = 0;
        int always = 0;
        for (int k = 0; k < now.kings.size(); k++) {
            int wins = now.kings.get(k)[3];
            if (what < 5) {
                int mine = what == 4 ? now.pagesOf(k) : now.kings.get(k)[what];
                int its = what == 4 ? now.pagesOf(best) : now.kings.get(best)[what];
                best = mine > its ? k : best;
            }
            sum += wins;
            never |= wins > 0 && now.pagesOf(k) == 0 ? 1 << k : 0;
            always |= now.pagesOf(k) > 0 ? 1 << k : 0;
        }
        switch (what) {
            case 5:
                return never;
            case 6:
                return always;
            case 7:
                return sum;
            case 10:
                return now.year % land.fields.size();
            default:
                return what < 5 ? best : ofPages(what);
        }
    }

    private int ofPages(int what) {
        int bloodiest = 0;
        int lie = 0;
        int same = 0;
        int silent = 0;
        for (int f = 0; f < land.fields.size(); f++) {
            int fell = land.fields.get(f)[3];
            bloodiest = fell > land.fields.get(bloodiest)[3] ? f : bloodiest;
            boolean any = false;
            Set<List<Integer>> who = new HashSet<>();
            for (int[] p : now.pages) {
                if (p[0] == f) {
                    any = true;
                    lie += p[2] - fell;
                    who.add(List.of(p[2], p[1]));
                }
            }
            Set<Integer> numbers = new HashSet<>();
            for (List<Integer> one : who) {
                same |= numbers.add(one.get(0)) ? 0 : 1 << f;
            }
            silent |= any ? 0 : 1 << f;
        }
        return what == 8 ? bloodiest : what == 9 ? lie : what == 11 ? same : silent;
    }

    int wars(int one, int other) {
        if (!isKingdom(one) || !isKingdom(other)) {
            return NONE;
        }
        int bits = 0;
        for (int f = 0; f < land.fields.size(); f++) {
            int[] m = land.fields.get(f);
            bits |= m[0] == one && m[1] == other || m[0] == other && m[1] == one ? 1 << f : 0;
        }
        return bits;
    }

    int count(int what) {
        switch (what) {
            case 0:
                return land == null ? 0 : land.kingdoms.size();
            case 1:
                return land == null ? 0 : land.fields.size();
            case 2:
                return laws.size();
            case 3:
                return campaigns.size();
            case 4:
                return tape.length();
            case 5:
                return holds;
            case 6:
                return now.year;
            case 7:
                return now.coins;
            case 8:
                return now.pages.size();
            case 9:
                return intrigue;
            case 10:
                return told.size();
            case 11:
                return now.log.size();
            case 12:
                return acts.size();
            default:
                return HIDDEN;
        }
    }
}
