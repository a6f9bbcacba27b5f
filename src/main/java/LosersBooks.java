import java.util.Arrays;
import java.util.NoSuchElementException;

/** Kingdoms at war of whom only the beaten write. What each call answers stands in the document, promise by promise. */
public final class LosersBooks {
    public static final int NONE = -1;
    public static final int HIDDEN = -1000000;

    /** What a call answers when it is refused and NONE already means something else. */
    private static final int REFUSED = -2;

    private static final int REALM = 0;
    private static final int LAW = 1;
    private static final int CAMPAIGN = 2;
    private static final int TEXTS_MOST = 4;

    private static final int KINGDOMS_MOST = 4;
    private static final int FIELDS_MOST = 8;
    private static final int MIGHT_MOST = 30;
    private static final int STYLE_MOST = 9;
    private static final int BIAS_MOST = 9;
    private static final int TRUTH_MOST = 20;
    private static final int FORCE_MOST = 60;
    private static final int WINS_MOST = 999;
    private static final int COINS_MOST = 999;
    private static final int YEAR_MOST = 999;
    private static final int GIFT_MOST = 50;
    private static final int INTRIGUE_MOST = 9;
    private static final int PARTS = 1000000000;

    private static final int YEARS_AT_ONCE = 30;
    private static final int YEARS_AHEAD = 60;
    private static final int SHELF_MOST = 30;
    private static final int SCHEME_YEARS = 20;

    private static final int YEAR_STEP = 0;
    private static final int HOLD_STEP = 1;
    private static final int ARM_STEP = 2;
    private static final int TEACH_STEP = 3;
    private static final int SWEAR_STEP = 4;

    private static final int ARM_PRICE = 2;
    private static final int TEACH_PRICE = 3;
    private static final int SWEAR_PRICE = 4;

    private final Tape tape = new Tape();
    private final Law[] laws = new Law[TEXTS_MOST];
    private final Campaign[] campaigns = new Campaign[TEXTS_MOST];
    private final World now = new World();
    private final World apart = new World();
    private final World picture = new World();
    private final Acts acts = new Acts();
    private final Rumours rumours = new Rumours();
    private final Dice dice = new Dice();

    // Texts are read into drafts, so that a text with a fault leaves what stands alone.
    private Realm realm = new Realm();
    private Realm realmDraft = new Realm();
    private Law lawDraft = new Law();
    private Campaign campaignDraft = new Campaign();

    private int lawCount = 0;
    private int campaignCount = 0;
    private int lawThatHolds = NONE;
    private int intrigues = 2;
    private boolean pictured = false;

    public LosersBooks() {
    }

    // ---- texts ----

    public int feed(int a, int b, int c, int d, int e) {
        int more = signsIn(a) + signsIn(b) + signsIn(c) + signsIn(d) + signsIn(e);
        if (tape.size + more > Tape.MOST) {
            return NONE;
        }
        tape.append(a);
        tape.append(b);
        tape.append(c);
        tape.append(d);
        tape.append(e);
        return tape.size;
    }

    private static int signsIn(int four) {
        int signs = 0;
        for (int shift = 24; shift >= 0; shift -= 8) {
            signs += (four >>> shift & 255) == 0 ? 0 : 1;
        }
        return signs;
    }

    public boolean end(int n) {
        if (n < 0 || n > tape.size) {
            return false;
        }
        tape.size = n;
        return true;
    }

    public int fault(int sort) {
        switch (sort) {
            case REALM:
                return realmDraft.readFrom(tape);
            case LAW:
                return new LawReader(tape, lawDraft).readLaw();
            case CAMPAIGN:
                return campaignDraft.readFrom(tape);
            default:
                return REFUSED;
        }
    }

    public int text(int sort) {
        switch (sort) {
            case REALM:
                return realmDraft.readFrom(tape) == NONE ? foundRealm() : NONE;
            case LAW:
                return new LawReader(tape, lawDraft).readLaw() == NONE ? keepLaw() : NONE;
            case CAMPAIGN:
                return campaignDraft.readFrom(tape) == NONE ? keepCampaign() : NONE;
            default:
                return NONE;
        }
    }

    private int foundRealm() {
        Realm old = realm;
        realm = realmDraft;
        realmDraft = old;
        now.begin(realm);
        acts.forget();
        rumours.begin(realm.kingdoms);
        pictured = false;
        tape.size = 0;
        return realm.kingdoms;
    }

    private int keepLaw() {
        if (lawCount < 0 || lawCount >= laws.length) {
            return NONE;
        }
        laws[lawCount] = lawDraft;
        lawDraft = new Law();
        lawCount++;
        tape.size = 0;
        return lawCount - 1;
    }

    private int keepCampaign() {
        if (campaignCount < 0 || campaignCount >= campaigns.length) {
            return NONE;
        }
        campaigns[campaignCount] = campaignDraft;
        campaignDraft = new Campaign();
        campaignCount++;
        tape.size = 0;
        return campaignCount - 1;
    }

    // ---- what there is ----

    private boolean hasRealm() {
        return realm.kingdoms > 0;
    }

    private boolean isKingdom(int kingdom) {
        return kingdom >= 0 && kingdom < realm.kingdoms;
    }

    private boolean isField(int field) {
        return field >= 0 && field < realm.fields;
    }

    /** The law that holds, or null without one. */
    private Law ruling() {
        return lawThatHolds >= 0 && lawThatHolds < laws.length ? laws[lawThatHolds] : null;
    }

    /** The campaign of that number, or null. */
    private Campaign campaignOf(int campaign) {
        return campaign >= 0 && campaign < campaignCount && campaign < campaigns.length ? campaigns[campaign] : null;
    }

    public int kingdom(int kingdom, int what) throws NoSuchElementException {
        if (!isKingdom(kingdom)) {
            throw new NoSuchElementException("no such kingdom");
        }
        switch (what) {
            case 0:
                return now.might[kingdom];
            case 1:
                return now.bias[kingdom];
            case 2:
                return now.style[kingdom];
            case 3:
                return now.wins[kingdom];
            case 4:
                return now.written[kingdom];
            case 5:
                return now.held[kingdom];
            default:
                throw new NoSuchElementException("no such quality of a kingdom");
        }
    }

    public int field(int field, int what) {
        if (!isField(field)) {
            return NONE;
        }
        switch (what) {
            case 0:
                return realm.first[field];
            case 1:
                return realm.second[field];
            case 2:
                return realm.ground[field];
            case 3:
                return realm.fell[field];
            default:
                return NONE;
        }
    }

    public boolean law(int law) {
        if (law < NONE || law >= lawCount) {
            return false;
        }
        lawThatHolds = law;
        return true;
    }

    public boolean intrigue(int v) {
        if (v < 0 || v > INTRIGUE_MOST || v == intrigues) {
            return false;
        }
        intrigues = v;
        return true;
    }

    public int count(int what) {
        switch (what) {
            case 0:
                return realm.kingdoms;
            case 1:
                return realm.fields;
            case 2:
                return lawCount;
            case 3:
                return campaignCount;
            case 4:
                return tape.size;
            case 5:
                return lawThatHolds;
            case 6:
                return now.year;
            case 7:
                return now.coins;
            case 8:
                return now.pageCount;
            case 9:
                return intrigues;
            case 10:
                return rumours.size;
            case 11:
                return now.logCount;
            case 12:
                return acts.size;
            default:
                return HIDDEN;
        }
    }

    // ---- acts ----

    /** Whether such a step can be in that world: by hand and in campaigns alike. */
    private boolean canStep(World world, int kind, int kingdom) {
        if (kind == YEAR_STEP) {
            return hasRealm() && world.year < YEAR_MOST;
        }
        if (!isKingdom(kingdom)) {
            return false;
        }
        switch (kind) {
            case HOLD_STEP:
                return true;
            case ARM_STEP:
                return world.might[kingdom] < MIGHT_MOST && world.coins >= ARM_PRICE;
            case TEACH_STEP:
                return world.style[kingdom] < STYLE_MOST && world.coins >= TEACH_PRICE;
            case SWEAR_STEP:
                return world.bias[kingdom] > 0 && world.coins >= SWEAR_PRICE;
            default:
                return false;
        }
    }

    /** Does a step that can be; who was beaten in a year, NONE for other steps. */
    private int takeStep(World world, int kind, int kingdom) {
        if (kind == YEAR_STEP) {
            return world.passYear(realm, ruling());
        }
        if (!isKingdom(kingdom)) {
            return NONE;
        }
        switch (kind) {
            case HOLD_STEP:
                world.held[kingdom] = 1 - world.held[kingdom];
                break;
            case ARM_STEP:
                world.might[kingdom]++;
                world.coins -= ARM_PRICE;
                break;
            case TEACH_STEP:
                world.style[kingdom]++;
                world.coins -= TEACH_PRICE;
                break;
            case SWEAR_STEP:
                world.bias[kingdom]--;
                world.coins -= SWEAR_PRICE;
                break;
            default:
                break;
        }
        return NONE;
    }

    private boolean act(int kind, int kingdom) {
        if (!canStep(now, kind, kingdom)) {
            return false;
        }
        acts.keep(now);
        takeStep(now, kind, kingdom);
        return true;
    }

    public int year() {
        return act(YEAR_STEP, NONE) ? now.loggedOf(0, 1) : REFUSED;
    }

    public int hold(int kingdom) {
        return act(HOLD_STEP, kingdom) ? now.held[kingdom] : NONE;
    }

    public int arm(int kingdom) {
        return act(ARM_STEP, kingdom) ? now.might[kingdom] : NONE;
    }

    public int teach(int kingdom) {
        return act(TEACH_STEP, kingdom) ? now.style[kingdom] : NONE;
    }

    public int swear(int kingdom) {
        return act(SWEAR_STEP, kingdom) ? now.bias[kingdom] : NONE;
    }

    public int burn(int page) {
        if (page < 0 || page >= now.pageCount) {
            return NONE;
        }
        acts.keep(now);
        now.dropPage(page);
        return now.pageCount;
    }

    public int give(int n) {
        if (!hasRealm() || n < 1 || n > GIFT_MOST || now.coins + n > COINS_MOST) {
            return NONE;
        }
        acts.keep(now);
        now.coins += n;
        return now.coins;
    }

    public int years(int n, long seed) {
        if (!hasRealm() || n < 1 || n > YEARS_AT_ONCE || now.year + n > YEAR_MOST) {
            return NONE;
        }
        dice.x = seed;
        for (int i = 0; i < n; i++) {
            acts.keep(now);
            drawAheadOfYear();
            now.passYear(realm, ruling());
        }
        return now.year;
    }

    private void drawAheadOfYear() {
        if (dice.draw(10) < intrigues) {
            int turning = dice.draw(realm.kingdoms);
            if (isKingdom(turning)) {
                now.held[turning] = 1 - now.held[turning];
            }
        }
        if (dice.draw(10) >= 7) {
            int growing = dice.draw(realm.kingdoms);
            if (isKingdom(growing)) {
                now.might[growing] = Math.min(MIGHT_MOST, now.might[growing] + 2);
            }
        }
    }

    public int undo() {
        return acts.giveBack(now) ? acts.size : NONE;
    }

    public int log(int i, int what) {
        if (i < 0 || i >= now.logCount || what < 0 || what > 2) {
            return HIDDEN;
        }
        return now.loggedOf(i, what);
    }

    public int image() {
        if (!hasRealm()) {
            return NONE;
        }
        picture.copyFrom(now);
        pictured = true;
        return now.year;
    }

    public int back() {
        if (!pictured) {
            return NONE;
        }
        now.copyFrom(picture);
        acts.forget();
        return now.year;
    }

    // ---- campaigns ----

    public int step(int campaign, int i, int what) {
        Campaign plan = campaignOf(campaign);
        if (plan == null || i < 0 || i >= plan.size) {
            return HIDDEN;
        }
        switch (what) {
            case 0:
                return plan.kinds[i];
            case 1:
                return plan.digits[i];
            default:
                return HIDDEN;
        }
    }

    public int run(int campaign, int what) {
        Campaign plan = campaignOf(campaign);
        if (plan == null || !hasRealm() || what < 0 || what > 1) {
            return HIDDEN;
        }
        apart.copyFrom(now);
        int pages = 0;
        int done = 0;
        while (done < plan.size && canStep(apart, plan.kinds[done], plan.digits[done])) {
            int beaten = takeStep(apart, plan.kinds[done], plan.digits[done]);
            pages += beaten == NONE ? 0 : 1;
            done++;
        }
        if (what == 1) {
            return pages;
        }
        return done == plan.size ? NONE : done;
    }

    public int perform(int campaign) {
        Campaign plan = campaignOf(campaign);
        if (plan == null || !hasRealm()) {
            return NONE;
        }
        int done = 0;
        while (done < plan.size && act(plan.kinds[done], plan.digits[done])) {
            done++;
        }
        return done;
    }

    // ---- who would win, and what is ahead ----

    public int force(int kingdom, int field) {
        if (!isKingdom(kingdom) || !isField(field)) {
            return NONE;
        }
        int side = realm.sideOf(kingdom, field);
        return side == NONE ? NONE : now.forceOf(realm, ruling(), side, field, now.held[kingdom]);
    }

    public int wins(int field) {
        if (!isField(field)) {
            return REFUSED;
        }
        int firstHolds = now.holdsBack(realm, 0, field);
        int secondHolds = now.holdsBack(realm, 1, field);
        int side = now.winningSide(realm, ruling(), field, firstHolds, secondHolds);
        return side == NONE ? NONE : realm.meeting(side, field);
    }

    public int shelf(int kingdom, int n) {
        if (!isKingdom(kingdom) || n < 1 || n > SHELF_MOST) {
            return NONE;
        }
        apart.copyFrom(now);
        for (int gone = 0; gone <= YEARS_AHEAD; gone++) {
            if (apart.written[kingdom] >= n) {
                return gone;
            }
            apart.passYear(realm, ruling());
        }
        return NONE;
    }

    public int scheme(int kingdom, int n, int what) {
        if (!isKingdom(kingdom) || n < 1 || n > SCHEME_YEARS || what < 0 || what > 1) {
            return NONE;
        }
        int best = 0;
        int most = NONE;
        for (int bits = 0; bits < 1 << realm.kingdoms; bits++) {
            int pages = pagesIfHeld(bits, kingdom, n);
            if (pages > most || pages == most && Integer.bitCount(bits) < Integer.bitCount(best)) {
                best = bits;
                most = pages;
            }
        }
        return what == 0 ? best : most;
    }

    private int pagesIfHeld(int bits, int kingdom, int n) {
        if (!isKingdom(kingdom)) {
            return NONE;
        }
        apart.copyFrom(now);
        for (int k = 0; k < KINGDOMS_MOST; k++) {
            apart.held[k] = bits >> k & 1;
        }
        for (int i = 0; i < n; i++) {
            apart.passYear(realm, ruling());
        }
        return apart.written[kingdom];
    }

    public int peace() {
        if (!hasRealm()) {
            return NONE;
        }
        apart.copyFrom(now);
        for (int gone = 1; gone <= YEARS_AHEAD; gone++) {
            if (apart.passYear(realm, ruling()) == NONE) {
                return gone;
            }
        }
        return NONE;
    }

    public int last(int field) {
        return isField(field) ? Math.floorMod(field - now.year, realm.fields) + 1 : NONE;
    }

    // ---- rumours ----

    public int told(int kingdom, int field, int n) {
        if (!isKingdom(kingdom) || !isField(field) || n < 0 || n > TRUTH_MOST + BIAS_MOST) {
            return NONE;
        }
        return rumours.hear(kingdom, field, n) ? rumours.size : NONE;
    }

    public int biases(int kingdom, int i) {
        return isKingdom(kingdom) ? pick(rumours.biasesOf(kingdom), i) : NONE;
    }

    public int truths(int field, int i) {
        return isField(field) ? pick(rumours.truthsOf(field), i) : NONE;
    }

    public int read(int field) {
        return isField(field) ? rumours.bestWitness(field) : NONE;
    }

    /** How many bits are set (i NONE), or the number of the i-th one, rising; NONE: there is none. */
    private static int pick(int bits, int i) {
        if (i == NONE) {
            return Integer.bitCount(bits);
        }
        int left = i;
        for (int bit = 0; bit < 32 && i >= 0; bit++) {
            if ((bits >> bit & 1) == 1) {
                if (left == 0) {
                    return bit;
                }
                left--;
            }
        }
        return NONE;
    }

    // ---- games ----

    public int game(int field, int x, int y, int what) {
        if (!isField(field) || x < 0 || x > 1 || y < 0 || y > 1 || what < 0 || what > 1) {
            return HIDDEN;
        }
        return gain(field, x, y, what);
    }

    private int gain(int field, int x, int y, int side) {
        int winning = now.winningSide(realm, ruling(), field, x, y);
        int gained = 0;
        if (winning == side) {
            gained = 4;
        } else if (winning != NONE) {
            int beaten = realm.meeting(side, field);
            gained = isKingdom(beaten) ? now.style[beaten] + 2 : 0;
        }
        return gained - (side == 0 ? x : y);
    }

    public int rests(int field, int i) {
        if (!isField(field)) {
            return NONE;
        }
        int bits = 0;
        for (int x = 0; x <= 1; x++) {
            for (int y = 0; y <= 1; y++) {
                bits |= isRest(field, x, y) ? 1 << 10 * x + y : 0;
            }
        }
        return pick(bits, i);
    }

    private boolean isRest(int field, int x, int y) {
        return gain(field, x, y, 0) >= gain(field, 1 - x, y, 0) && gain(field, x, y, 1) >= gain(field, x, 1 - y, 1);
    }

    public int odds(int field, int a, int b) {
        if (!isField(field) || a < 0 || a > 100 || b < 0 || b > 100) {
            return NONE;
        }
        int parts = 0;
        int firstHolds = hundredths(PARTS, a);
        for (int x = 0; x <= 1; x++) {
            int ofFirst = x == 1 ? firstHolds : PARTS - firstHolds;
            int secondHolds = hundredths(ofFirst, b);
            for (int y = 0; y <= 1; y++) {
                if (now.winningSide(realm, ruling(), field, x, y) == 1) {
                    parts += y == 1 ? secondHolds : ofFirst - secondHolds;
                }
            }
        }
        return parts;
    }

    private static int hundredths(int whole, int chance) {
        return (int) ((long) whole * chance / 100);
    }

    // ---- shelves ----

    public int shares(int kingdom, int c) {
        if (!isKingdom(kingdom) || c < 0 || c > 999) {
            return NONE;
        }
        return now.pageCount == 0 ? 0 : c * now.written[kingdom] / now.pageCount;
    }

    public int all(int what) {
        if (!hasRealm()) {
            return NONE;
        }
        switch (what) {
            case 0:
                return greatest(now.might, realm.kingdoms);
            case 1:
                return greatest(now.bias, realm.kingdoms);
            case 2:
                return greatest(now.style, realm.kingdoms);
            case 3:
                return greatest(now.wins, realm.kingdoms);
            case 4:
                return greatest(now.written, realm.kingdoms);
            case 5:
                return now.neverBeaten();
            case 6:
                return now.alwaysBeaten();
            case 7:
                return now.winsOfAll();
            case 8:
                return greatest(realm.fell, realm.fields);
            case 9:
                return now.lies(realm);
            case 10:
                return now.nextField(realm);
            case 11:
                return now.toldAlike();
            case 12:
                return ((1 << realm.fields) - 1) & ~now.toldAtAll();
            default:
                return NONE;
        }
    }

    /** Where the greatest of the first so many stands; of several the lowest. */
    private static int greatest(int[] row, int size) {
        int best = 0;
        for (int i = 1; i < size && i < row.length; i++) {
            best = row[i] > row[best] ? i : best;
        }
        return best;
    }

    public int page(int i, int what) {
        if (i < 0 || i >= now.pageCount || what < 0 || what > 2) {
            return NONE;
        }
        return World.unpacked(now.pages[i], what);
    }

    public int wars(int one, int other) {
        if (!isKingdom(one) || !isKingdom(other)) {
            return NONE;
        }
        int bits = 0;
        for (int field = 0; field < realm.fields; field++) {
            boolean both = realm.sideOf(one, field) != NONE && realm.sideOf(other, field) != NONE;
            bits |= both && one != other ? 1 << field : 0;
        }
        return bits;
    }

    /** The bytes fed, and a reader's place among them. */
    private static final class Tape {
        static final int MOST = 240;
        /** No sign: the tape is at its end. */
        static final int END = -1;

        private final int[] signs = new int[MOST];
        private int size = 0;
        private int at = 0;
        private int fault = NONE;

        void append(int four) {
            for (int shift = 24; shift >= 0; shift -= 8) {
                int sign = four >>> shift & 255;
                if (sign != 0 && size >= 0 && size < MOST) {
                    signs[size] = sign;
                    size++;
                }
            }
        }

        void rewind() {
            fault = NONE;
            at = -1;
            pass();
        }

        /** The sign that is next. */
        int sign() {
            return at >= 0 && at < size && at < MOST ? signs[at] : END;
        }

        /** On to the next sign that is no blank. */
        void pass() {
            at++;
            while (at >= 0 && at < size && at < MOST && signs[at] == ' ') {
                at++;
            }
        }

        void expect(int sign) {
            if (sign() == sign) {
                pass();
            } else {
                fail();
            }
        }

        void expectEnd() {
            if (sign() != END) {
                fail();
            }
        }

        /** Only the first fault counts; the rest is passed over, so that every reader comes to its end. */
        void fail() {
            if (fault == NONE) {
                fault = at;
            }
            at = size;
        }

        /** All digits are taken before the bound is looked at: a digit too many is wrong itself, whatever stands ahead. */
        int number(int digitsMost, int most) {
            if (!isDigit(sign())) {
                fail();
                return 0;
            }
            int value = 0;
            for (int i = 0; i < digitsMost && isDigit(sign()); i++) {
                value = value * 10 + sign() - '0';
                at++;
            }
            if (isDigit(sign())) {
                fail();
                return 0;
            }
            at--;
            if (value > most) {
                fail();
                return 0;
            }
            pass();
            return value;
        }

        static boolean isDigit(int sign) {
            return sign >= '0' && sign <= '9';
        }

        /** Where the sign stands in a text of signs, or NONE. */
        static int placeIn(String among, int sign) {
            return sign < 0 ? NONE : among.indexOf((char) sign);
        }
    }

    /** What the text of a realm tells and no year changes. */
    private static final class Realm {
        private static final String RULE_LETTERS = "wc";
        private static final String KINGDOM_LETTERS = "mbs";
        private static final String FIELD_LETTERS = "abgn";
        private static final int[] RULE_BOUNDS = {9, 99};
        private static final int[] KINGDOM_BOUNDS = {30, 9, 9};
        private static final int[] FIELD_BOUNDS = {3, 3, 9, 20};

        private final int[] might = new int[KINGDOMS_MOST];
        private final int[] bias = new int[KINGDOMS_MOST];
        private final int[] style = new int[KINGDOMS_MOST];
        private final int[] first = new int[FIELDS_MOST];
        private final int[] second = new int[FIELDS_MOST];
        private final int[] ground = new int[FIELDS_MOST];
        private final int[] fell = new int[FIELDS_MOST];
        private final int[] items = new int[FIELD_LETTERS.length()];
        private int kingdoms = 0;
        private int fields = 0;
        private boolean ruled = false;
        private int rout = 1;
        private int coins = 0;

        /** The fault, or NONE. */
        int readFrom(Tape tape) {
            kingdoms = 0;
            fields = 0;
            ruled = false;
            rout = 1;
            coins = 20;
            tape.rewind();
            readClause(tape);
            for (int i = 0; i < Tape.MOST && tape.sign() == ';'; i++) {
                tape.pass();
                readClause(tape);
            }
            tape.expectEnd();
            if (!stands()) {
                tape.fail();
            }
            return tape.fault;
        }

        private void readClause(Tape tape) {
            int sign = tape.sign();
            if (sign == 's' && !ruled) {
                tape.pass();
                readRules(tape);
            } else if (sign == 'k' && kingdoms < KINGDOMS_MOST) {
                tape.pass();
                readKingdom(tape);
            } else if (sign == 'f' && fields < FIELDS_MOST) {
                tape.pass();
                readField(tape);
            } else {
                tape.fail();
            }
        }

        private void readRules(Tape tape) {
            setItems(1, 20, 0, 0);
            readItems(tape, RULE_LETTERS, RULE_BOUNDS);
            rout = items[0];
            coins = items[1];
            ruled = true;
        }

        private void readKingdom(Tape tape) {
            setItems(8, 2, 3, 0);
            readItems(tape, KINGDOM_LETTERS, KINGDOM_BOUNDS);
            might[kingdoms] = items[0];
            bias[kingdoms] = items[1];
            style[kingdoms] = items[2];
            kingdoms++;
        }

        private void readField(Tape tape) {
            setItems(0, 1, 0, 7);
            readItems(tape, FIELD_LETTERS, FIELD_BOUNDS);
            first[fields] = items[0];
            second[fields] = items[1];
            ground[fields] = items[2];
            fell[fields] = items[3];
            fields++;
        }

        private void setItems(int a, int b, int c, int d) {
            items[0] = a;
            items[1] = b;
            items[2] = c;
            items[3] = d;
        }

        /** Stops ahead of a letter that is none of these or was there: whoever reads on then finds the fault at it. */
        private void readItems(Tape tape, String letters, int[] bounds) {
            int seen = 0;
            for (int i = 0; i < letters.length(); i++) {
                int which = Tape.placeIn(letters, tape.sign());
                if (which < 0 || which >= bounds.length || which >= items.length || (seen >> which & 1) == 1) {
                    return;
                }
                seen |= 1 << which;
                tape.pass();
                items[which] = tape.number(2, bounds[which]);
            }
        }

        private boolean stands() {
            boolean well = kingdoms >= 2 && fields >= 1;
            for (int field = 0; field < fields; field++) {
                well = well && first[field] < kingdoms && second[field] < kingdoms && first[field] != second[field];
            }
            return well;
        }

        /** Who meets there on that side (0, 1). */
        int meeting(int side, int field) {
            if (field < 0 || field >= fields) {
                return NONE;
            }
            return side == 0 ? first[field] : second[field];
        }

        /** On which side (0, 1) a kingdom meets there, or NONE. */
        int sideOf(int kingdom, int field) {
            if (meeting(0, field) == kingdom) {
                return 0;
            }
            return meeting(1, field) == kingdom ? 1 : NONE;
        }
    }

    /** A law of force, as signs to be worked off one behind the other on a pile of numbers. */
    private static final class Law {
        // Those that lay a number on the pile, those that look at one, then those that join two.
        static final int NUMBER = 0;
        static final int LETTER = 1;
        static final int DONE = 2;
        /** Goes on at the next clause, if the condition does not hold. */
        static final int UNLESS = 3;
        static final int NOT = 4;
        static final int PLUS = 5;
        static final int MINUS = 6;
        static final int TIMES = 7;
        static final int OVER = 8;
        static final int SAME = 9;
        static final int LESS = 10;
        static final int MORE = 11;
        static final int AND = 12;
        static final int OR = 13;

        private static final int BOUND = 1000000;
        /** Six deep, two numbers wait at each depth, and six more at the deepest one. */
        private static final int PILE_MOST = 32;
        /** Room for six, rounded up so that three bits can never point beside it. */
        private static final int LETTERS_ROOM = 8;

        // Every sign worked off comes from a sign of the text of its own.
        private final int[] code = new int[Tape.MOST];
        private final int[] pile = new int[PILE_MOST];
        private final int[] letters = new int[LETTERS_ROOM];
        private int size = 0;

        void add(int sign, int operand) {
            if (size >= 0 && size < code.length) {
                code[size] = operand << 4 | sign;
                size++;
            }
        }

        /** Tells the condition at that place where the next clause begins: here. */
        void aimHere(int place) {
            if (place >= 0 && place < code.length) {
                code[place] = size << 4 | UNLESS;
            }
        }

        int worth(int might, int ground, int style, int pages, int wins, int year) {
            letters[0] = might;
            letters[1] = ground;
            letters[2] = style;
            letters[3] = pages;
            letters[4] = wins;
            letters[5] = year;
            int top = 0;
            for (int at = 0; at < size && at < code.length; at++) {
                int sign = code[at] & 15;
                int operand = code[at] >> 4;
                if (sign <= LETTER) {
                    if (top >= PILE_MOST) {
                        return 0;
                    }
                    pile[top] = sign == NUMBER ? operand : letters[operand & LETTERS_ROOM - 1];
                    top++;
                } else if (top < 1) {
                    return 0;
                } else if (sign == DONE) {
                    return pile[top - 1];
                } else if (sign == UNLESS) {
                    top--;
                    at = pile[top] == 0 ? Math.max(at, operand - 1) : at;
                } else if (sign == NOT) {
                    pile[top - 1] = 1 - pile[top - 1];
                } else if (top < 2) {
                    return 0;
                } else {
                    top--;
                    pile[top - 1] = joined(sign, pile[top - 1], pile[top]);
                }
            }
            return 0;
        }

        private static int joined(int sign, int left, int right) {
            long value = 0;
            switch (sign) {
                case PLUS:
                    value = left + right;
                    break;
                case MINUS:
                    value = left - right;
                    break;
                case TIMES:
                    value = (long) left * right;
                    break;
                case OVER:
                    value = right == 0 ? 0 : left / right;
                    break;
                case SAME:
                    return left == right ? 1 : 0;
                case LESS:
                    return left < right ? 1 : 0;
                case MORE:
                    return left > right ? 1 : 0;
                case AND:
                    return left & right;
                default:
                    return left | right;
            }
            return value > BOUND ? BOUND : value < -BOUND ? -BOUND : (int) value;
        }
    }

    /** Reads the text of a law sign by sign: the next sign alone always tells how it goes on. */
    private static final class LawReader {
        private static final String LETTERS = "mgspwd";
        private static final String COMPARISONS = "=<>";
        private static final int DEPTH_MOST = 6;
        private static final int DIGITS_MOST = 4;
        private static final int NUMBER_MOST = 9999;

        private final Tape tape;
        private final Law law;

        LawReader(Tape tape, Law law) {
            this.tape = tape;
            this.law = law;
        }

        /** The fault, or NONE. */
        int readLaw() {
            law.size = 0;
            tape.rewind();
            clause();
            for (int i = 0; i < Tape.MOST && tape.sign() == ';'; i++) {
                tape.pass();
                clause();
            }
            tape.expectEnd();
            return tape.fault;
        }

        private void clause() {
            tape.expect('y');
            tape.expect(':');
            int next = tape.sign();
            if (next == '!' || next == '(') {
                condition(0);
                conditioned();
                return;
            }
            sum(0);
            // Only now it shows whether that was the worth, or what the first comparison begins with.
            if (Tape.placeIn(COMPARISONS, tape.sign()) >= 0) {
                comparison(0);
                furtherUnits(0);
                furtherTruths(0);
                conditioned();
                return;
            }
            law.add(Law.DONE, 0);
        }

        private void conditioned() {
            tape.expect('?');
            int place = law.size;
            law.add(Law.UNLESS, 0);
            sum(0);
            law.add(Law.DONE, 0);
            law.aimHere(place);
        }

        private void condition(int depth) {
            truth(depth);
            furtherTruths(depth);
        }

        private void furtherTruths(int depth) {
            for (int i = 0; i < Tape.MOST && tape.sign() == '|'; i++) {
                tape.pass();
                truth(depth);
                law.add(Law.OR, 0);
            }
        }

        private void truth(int depth) {
            unit(depth);
            furtherUnits(depth);
        }

        private void furtherUnits(int depth) {
            for (int i = 0; i < Tape.MOST && tape.sign() == '&'; i++) {
                tape.pass();
                unit(depth);
                law.add(Law.AND, 0);
            }
        }

        private void unit(int depth) {
            int next = tape.sign();
            if (next == '!' && goesDeeper(depth)) {
                unit(depth + 1);
                law.add(Law.NOT, 0);
            } else if (next == '(' && goesDeeper(depth)) {
                condition(depth + 1);
                tape.expect(')');
            } else {
                sum(depth);
                comparison(depth);
            }
        }

        /** Passes a sign that opens something; one that would lie too deep is a fault. */
        private boolean goesDeeper(int depth) {
            if (depth >= DEPTH_MOST) {
                tape.fail();
                return false;
            }
            tape.pass();
            return true;
        }

        private void comparison(int depth) {
            int which = Tape.placeIn(COMPARISONS, tape.sign());
            if (which < 0) {
                tape.fail();
                return;
            }
            tape.pass();
            sum(depth);
            law.add(Law.SAME + which, 0);
        }

        private void sum(int depth) {
            term(depth);
            for (int i = 0; i < Tape.MOST && (tape.sign() == '+' || tape.sign() == '-'); i++) {
                int sign = tape.sign() == '+' ? Law.PLUS : Law.MINUS;
                tape.pass();
                term(depth);
                law.add(sign, 0);
            }
        }

        private void term(int depth) {
            atom(depth);
            for (int i = 0; i < Tape.MOST && (tape.sign() == '*' || tape.sign() == '/'); i++) {
                int sign = tape.sign() == '*' ? Law.TIMES : Law.OVER;
                tape.pass();
                atom(depth);
                law.add(sign, 0);
            }
        }

        private void atom(int depth) {
            int next = tape.sign();
            int letter = Tape.placeIn(LETTERS, next);
            if (Tape.isDigit(next)) {
                law.add(Law.NUMBER, tape.number(DIGITS_MOST, NUMBER_MOST));
            } else if (letter >= 0) {
                tape.pass();
                law.add(Law.LETTER, letter);
            } else if (next == '[' && goesDeeper(depth)) {
                sum(depth + 1);
                tape.expect(']');
            } else {
                tape.fail();
            }
        }
    }

    /** The steps that the text of a campaign tells. */
    private static final class Campaign {
        static final int STEPS_MOST = 16;
        /** Each at the number of its kind. */
        private static final String STEP_LETTERS = "yhat";

        private final int[] kinds = new int[STEPS_MOST];
        private final int[] digits = new int[STEPS_MOST];
        private int size = 0;

        /** The fault, or NONE. */
        int readFrom(Tape tape) {
            size = 0;
            tape.rewind();
            readStep(tape);
            for (int i = 1; i < STEPS_MOST && tape.sign() == ';'; i++) {
                tape.pass();
                readStep(tape);
            }
            tape.expectEnd();
            return tape.fault;
        }

        private void readStep(Tape tape) {
            int kind = Tape.placeIn(STEP_LETTERS, tape.sign());
            if (kind < 0 || size < 0 || size >= STEPS_MOST) {
                tape.fail();
                return;
            }
            tape.pass();
            kinds[size] = kind;
            digits[size] = kind == YEAR_STEP ? NONE : tape.number(1, 9);
            size++;
        }
    }

    /** All that acts change. */
    private static final class World {
        private static final int PAGES_MOST = 30;
        private static final int LOG_MOST = 60;

        private final int[] might = new int[KINGDOMS_MOST];
        private final int[] bias = new int[KINGDOMS_MOST];
        private final int[] style = new int[KINGDOMS_MOST];
        private final int[] wins = new int[KINGDOMS_MOST];
        private final int[] held = new int[KINGDOMS_MOST];
        /** How many of the pages that are kept each wrote. */
        private final int[] written = new int[KINGDOMS_MOST];
        /** The oldest first, packed, as is the log: acts copy worlds often. */
        private final int[] pages = new int[PAGES_MOST];
        private final int[] log = new int[LOG_MOST];
        private int pageCount = 0;
        private int logCount = 0;
        private int coins = 0;
        private int year = 0;

        static int packed(int field, int who, int tells) {
            return field << 16 | who + 1 << 8 | tells + 1;
        }

        /** Of a page or a line of the log: 0 its field, 1 who was beaten, 2 what was told. */
        static int unpacked(int line, int what) {
            switch (what) {
                case 0:
                    return line >> 16;
                case 1:
                    return (line >> 8 & 255) - 1;
                default:
                    return (line & 255) - 1;
            }
        }

        void begin(Realm realm) {
            System.arraycopy(realm.might, 0, might, 0, KINGDOMS_MOST);
            System.arraycopy(realm.bias, 0, bias, 0, KINGDOMS_MOST);
            System.arraycopy(realm.style, 0, style, 0, KINGDOMS_MOST);
            Arrays.fill(wins, 0);
            Arrays.fill(held, 0);
            Arrays.fill(written, 0);
            pageCount = 0;
            logCount = 0;
            coins = realm.coins;
            year = 0;
        }

        void copyFrom(World other) {
            System.arraycopy(other.might, 0, might, 0, KINGDOMS_MOST);
            System.arraycopy(other.bias, 0, bias, 0, KINGDOMS_MOST);
            System.arraycopy(other.style, 0, style, 0, KINGDOMS_MOST);
            System.arraycopy(other.wins, 0, wins, 0, KINGDOMS_MOST);
            System.arraycopy(other.held, 0, held, 0, KINGDOMS_MOST);
            System.arraycopy(other.written, 0, written, 0, KINGDOMS_MOST);
            System.arraycopy(other.pages, 0, pages, 0, PAGES_MOST);
            System.arraycopy(other.log, 0, log, 0, LOG_MOST);
            pageCount = other.pageCount;
            logCount = other.logCount;
            coins = other.coins;
            year = other.year;
        }

        /** The force of who meets on that side (0, 1), were it so (1, 0) that it holds back. */
        int forceOf(Realm realm, Law law, int side, int field, int holds) {
            int kingdom = realm.meeting(side, field);
            if (kingdom < 0 || kingdom >= KINGDOMS_MOST) {
                return 0;
            }
            int ground = side == 0 ? realm.ground[field] : 0;
            int worth = law == null
                ? might[kingdom] + ground - wins[kingdom] / 2
                : law.worth(might[kingdom], ground, style[kingdom], written[kingdom], wins[kingdom], year);
            int force = Math.max(0, Math.min(FORCE_MOST, worth));
            return holds == 1 ? force / 2 : force;
        }

        /** Which side (0, 1) wins there, if they hold back so; NONE: drawn. */
        int winningSide(Realm realm, Law law, int field, int firstHolds, int secondHolds) {
            int firstForce = forceOf(realm, law, 0, field, firstHolds);
            int secondForce = forceOf(realm, law, 1, field, secondHolds);
            if (firstForce == secondForce) {
                return NONE;
            }
            return firstForce > secondForce ? 0 : 1;
        }

        /** Whether (1, 0) who meets on that side holds back. */
        int holdsBack(Realm realm, int side, int field) {
            int kingdom = realm.meeting(side, field);
            return kingdom >= 0 && kingdom < KINGDOMS_MOST ? held[kingdom] : 0;
        }

        int nextField(Realm realm) {
            return realm.fields > 0 ? Math.floorMod(year, realm.fields) : 0;
        }

        /** A year goes by: who was beaten, or NONE. */
        int passYear(Realm realm, Law law) {
            int field = nextField(realm);
            int side = winningSide(realm, law, field, holdsBack(realm, 0, field), holdsBack(realm, 1, field));
            int beaten = NONE;
            int tells = NONE;
            if (side != NONE) {
                win(realm.meeting(side, field));
                beaten = realm.meeting(1 - side, field);
                tells = lose(beaten, field, realm);
            }
            note(packed(field, beaten, tells));
            year++;
            return beaten;
        }

        private void win(int kingdom) {
            if (kingdom >= 0 && kingdom < KINGDOMS_MOST) {
                wins[kingdom] = Math.min(WINS_MOST, wins[kingdom] + 1);
            }
        }

        /** What the beaten kingdom tells of it. */
        private int lose(int kingdom, int field, Realm realm) {
            if (kingdom < 0 || kingdom >= KINGDOMS_MOST || field < 0 || field >= FIELDS_MOST) {
                return NONE;
            }
            int tells = realm.fell[field] + bias[kingdom];
            might[kingdom] = Math.max(0, might[kingdom] - realm.rout);
            style[kingdom] = Math.min(STYLE_MOST, style[kingdom] + 1);
            coins = Math.min(COINS_MOST, coins + 1);
            if (pageCount >= PAGES_MOST) {
                dropPage(0);
            }
            if (pageCount >= 0 && pageCount < PAGES_MOST) {
                pages[pageCount] = packed(field, kingdom, tells);
                pageCount++;
                written[kingdom]++;
            }
            return tells;
        }

        void dropPage(int page) {
            if (page < 0 || page >= pageCount || pageCount > PAGES_MOST) {
                return;
            }
            int writer = unpacked(pages[page], 1);
            if (writer >= 0 && writer < KINGDOMS_MOST) {
                written[writer]--;
            }
            System.arraycopy(pages, page + 1, pages, page, pageCount - page - 1);
            pageCount--;
        }

        private void note(int line) {
            if (logCount >= LOG_MOST) {
                System.arraycopy(log, 1, log, 0, LOG_MOST - 1);
                logCount = LOG_MOST - 1;
            }
            if (logCount >= 0) {
                log[logCount] = line;
                logCount++;
            }
        }

        /** Of the log, the latest 0. */
        int loggedOf(int i, int what) {
            int place = logCount - 1 - i;
            return place >= 0 && place < LOG_MOST ? unpacked(log[place], what) : NONE;
        }

        int neverBeaten() {
            int bits = 0;
            for (int k = 0; k < KINGDOMS_MOST; k++) {
                bits |= wins[k] > 0 && written[k] == 0 ? 1 << k : 0;
            }
            return bits;
        }

        int alwaysBeaten() {
            int bits = 0;
            for (int k = 0; k < KINGDOMS_MOST; k++) {
                bits |= written[k] > 0 ? 1 << k : 0;
            }
            return bits;
        }

        int winsOfAll() {
            int sum = 0;
            for (int k = 0; k < KINGDOMS_MOST; k++) {
                sum += wins[k];
            }
            return sum;
        }

        /** By how much the pages tell more than the truth in all. */
        int lies(Realm realm) {
            int sum = 0;
            for (int i = 0; i < pageCount && i < PAGES_MOST; i++) {
                int field = unpacked(pages[i], 0);
                int truth = field >= 0 && field < FIELDS_MOST ? realm.fell[field] : 0;
                sum += unpacked(pages[i], 2) - truth;
            }
            return sum;
        }

        /** The fields (bits) of which two kingdoms tell the same. */
        int toldAlike() {
            int bits = 0;
            for (int i = 0; i < pageCount && i < PAGES_MOST; i++) {
                for (int j = 0; j < i; j++) {
                    boolean alike = unpacked(pages[i], 0) == unpacked(pages[j], 0)
                        && unpacked(pages[i], 2) == unpacked(pages[j], 2)
                        && unpacked(pages[i], 1) != unpacked(pages[j], 1);
                    bits |= alike ? 1 << unpacked(pages[i], 0) : 0;
                }
            }
            return bits;
        }

        /** The fields (bits) of which a page is kept. */
        int toldAtAll() {
            int bits = 0;
            for (int i = 0; i < pageCount && i < PAGES_MOST; i++) {
                bits |= 1 << unpacked(pages[i], 0);
            }
            return bits;
        }
    }

    /** The worlds as they were ahead of the latest acts. */
    private static final class Acts {
        private static final int MOST = 40;

        private final World[] before = new World[MOST];
        /** Where the next one is kept: they go round. */
        private int next = 0;
        private int size = 0;

        Acts() {
            for (int i = 0; i < MOST; i++) {
                before[i] = new World();
            }
        }

        void keep(World world) {
            World slot = before[Math.floorMod(next, MOST)];
            if (slot != null) {
                slot.copyFrom(world);
            }
            next = Math.floorMod(next + 1, MOST);
            size = Math.min(MOST, size + 1);
        }

        /** Makes the world as it was ahead of the latest act. False: there is none. */
        boolean giveBack(World world) {
            if (size <= 0) {
                return false;
            }
            next = Math.floorMod(next - 1, MOST);
            size--;
            World slot = before[next];
            if (slot != null) {
                world.copyFrom(slot);
            }
            return true;
        }

        void forget() {
            size = 0;
        }
    }

    /** What kingdoms told of fields, and what biases and truths fit all of it. */
    private static final class Rumours {
        private static final int MOST = 10;
        /** A round without news ends it, and each of the others finds out a bias or a truth. */
        private static final int ROUNDS = KINGDOMS_MOST + FIELDS_MOST + 1;

        private final int[] who = new int[MOST];
        private final int[] where = new int[MOST];
        private final int[] number = new int[MOST];
        /** What follows from one guess; NONE: nothing does. */
        private final int[] bias = new int[KINGDOMS_MOST];
        private final int[] truth = new int[FIELDS_MOST];
        /** The biases (bits) of a kingdom from which nothing follows that can't be. */
        private final int[] fits = new int[KINGDOMS_MOST];
        private int kingdoms = 0;
        private int size = 0;
        private boolean sound = true;

        void begin(int howMany) {
            kingdoms = Math.max(0, Math.min(KINGDOMS_MOST, howMany));
            size = 0;
            weigh();
        }

        boolean hear(int kingdom, int field, int tells) {
            boolean known = kingdom >= 0 && kingdom < kingdoms && field >= 0 && field < FIELDS_MOST;
            if (!known || size < 0 || size >= MOST) {
                return false;
            }
            who[size] = kingdom;
            where[size] = field;
            number[size] = tells;
            size++;
            weigh();
            return true;
        }

        private void weigh() {
            sound = true;
            for (int k = 0; k < kingdoms; k++) {
                fits[k] = 0;
                for (int guess = 0; guess <= BIAS_MOST; guess++) {
                    fits[k] |= follow(k, guess) ? 1 << guess : 0;
                }
                sound = sound && fits[k] != 0;
            }
        }

        /** Follows a bias through all that was told. False: something can't be then. */
        private boolean follow(int kingdom, int guess) {
            Arrays.fill(bias, NONE);
            Arrays.fill(truth, NONE);
            if (kingdom < 0 || kingdom >= KINGDOMS_MOST) {
                return false;
            }
            bias[kingdom] = guess;
            boolean news = true;
            for (int round = 0; round < ROUNDS && news; round++) {
                news = false;
                for (int i = 0; i < size && i < MOST; i++) {
                    int b = bias[who[i]];
                    int t = truth[where[i]];
                    if (b != NONE && t == NONE) {
                        t = number[i] - b;
                        truth[where[i]] = t;
                        news = true;
                    } else if (b == NONE && t != NONE) {
                        b = number[i] - t;
                        bias[who[i]] = b;
                        news = true;
                    }
                    if ((b != NONE || t != NONE) && !agrees(b, t, number[i])) {
                        return false;
                    }
                }
            }
            return true;
        }

        private static boolean agrees(int b, int t, int tells) {
            return b >= 0 && b <= BIAS_MOST && t >= 0 && t <= TRUTH_MOST && b + t == tells;
        }

        int biasesOf(int kingdom) {
            return sound && kingdom >= 0 && kingdom < kingdoms ? fits[kingdom] : 0;
        }

        int truthsOf(int field) {
            if (!sound) {
                return 0;
            }
            int i = firstOf(field);
            if (i == NONE) {
                return (1 << TRUTH_MOST + 1) - 1;
            }
            int bits = 0;
            for (int b = 0; b <= BIAS_MOST; b++) {
                boolean may = (fits[who[i]] >> b & 1) == 1 && number[i] >= b;
                bits |= may ? 1 << number[i] - b : 0;
            }
            return bits;
        }

        /** The first thing told of a field, or NONE. */
        private int firstOf(int field) {
            for (int i = 0; i < size && i < MOST; i++) {
                if (where[i] == field) {
                    return i;
                }
            }
            return NONE;
        }

        /** The kingdom whose telling of the field would leave the least part of all that fits, at worst. */
        int bestWitness(int field) {
            if (!sound || field < 0 || field >= FIELDS_MOST) {
                return NONE;
            }
            int truths = truthsOf(field);
            int best = NONE;
            int bestLeft = 0;
            int bestOf = 1;
            for (int k = 0; k < kingdoms; k++) {
                // If it is bound to this truth it can tell one number alone; else any of its biases goes with any truth.
                boolean bound = isBound(k, field);
                int left = bound ? 1 : mostAlike(fits[k], truths);
                int of = bound ? 1 : Integer.bitCount(fits[k]) * Integer.bitCount(truths);
                if (best == NONE || left * bestOf < bestLeft * of) {
                    best = k;
                    bestLeft = left;
                    bestOf = of;
                }
            }
            return best;
        }

        /** Whether the bias of a kingdom leaves one truth of the field alone, by all that was told. */
        private boolean isBound(int kingdom, int field) {
            int guess = 0;
            while (guess < BIAS_MOST && (biasesOf(kingdom) >> guess & 1) == 0) {
                guess++;
            }
            return follow(kingdom, guess) && field >= 0 && field < FIELDS_MOST && truth[field] != NONE;
        }

        /** In how many ways a bias and a truth make the number that most of them make. */
        private static int mostAlike(int biases, int truths) {
            int most = 0;
            for (int tells = 0; tells <= TRUTH_MOST + BIAS_MOST; tells++) {
                int alike = 0;
                for (int b = 0; b <= BIAS_MOST && b <= tells; b++) {
                    boolean both = (biases >> b & 1) == 1 && (truths >> tells - b & 1) == 1;
                    alike += both ? 1 : 0;
                }
                most = Math.max(most, alike);
            }
            return most;
        }
    }

    /** The draws of a seed. */
    private static final class Dice {
        private static final long TIMES = 6364136223846793005L;
        private static final long PLUS = 1442695040888963407L;

        private long x = 0;

        int draw(int sides) {
            x = x * TIMES + PLUS;
            return sides > 0 ? (int) ((x >>> 33) % sides) : 0;
        }
    }
}
