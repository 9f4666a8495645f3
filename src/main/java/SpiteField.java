import java.util.Arrays;

/** A field of plots in a row, where each may grow only what his neighbour can't abide; see README.md. */
public final class SpiteField {
    public static final int NONE = -1;

    private static final int NO_SUCH = -2;
    private static final int BELOW_NOTHING = -3;
    private static final int FAULTY = -4;
    private static final int REFUSED = -5;
    private static final int NOTHING_THERE = -6;
    private static final int BEYOND = -7;
    private static final int OTHER_WIDTH = -8;
    private static final int NO_TASTE = -100;
    private static final int NO_SHARE = -1000;
    private static final int NO_SUM = -10000;

    private static final int MOST_PERSONS = 6;
    private static final int MOST_KINDS = 5;
    private static final int MOST_SETS = 32;
    private static final int MOST_ORDERS = 720;
    private static final int MOST_TASTE = 9;
    private static final int SEASONS = 13;
    private static final int MOST_ACTS = 40;
    private static final int MOST_FADES = 3;
    private static final int MOST_BYTES = 800;
    private static final int FED_BYTES = 20;
    private static final int IMAGES = 3;
    private static final int SLOTS = 4;
    private static final int WIDTHS = 4;
    private static final int MOST_NUMBERS = 60;
    private static final int MOST_SEED = 2000000000;
    private static final int MOST_SPRINGS = 20;
    private static final int PRICE_OF_HIDING = 2;

    private static final int LAW_ALL = 1;
    private static final int LAW_FIRST = 2;
    private static final int LAW_LEFT = 3;

    private static final int CHANGE_PLOTS = 0;
    private static final int SHOW_HATE = 1;
    private static final int HIDE_HATE = 2;

    private final Reader reader = new Reader();
    private final Land draft = new Land();
    private final Land land = new Land();
    private final Land[] images = new Land[IMAGES];
    private final boolean[] imageKept = new boolean[IMAGES];
    private final Slot[] slots = new Slot[SLOTS];
    private final Season[] seasons = new Season[SEASONS];
    private final Season trial = new Season();
    private final Orders orders = new Orders();
    private final Spoons table = new Spoons();
    private final Springs springs = new Springs();
    private boolean seasonsStale = true;
    private boolean ordersStale = true;

    public SpiteField() {
        for (int i = 0; i < IMAGES; i++) {
            images[i] = new Land();
        }
        for (int i = 0; i < SLOTS; i++) {
            slots[i] = new Slot();
        }
        for (int i = 0; i < SEASONS; i++) {
            seasons[i] = new Season();
        }
    }

    // ---- the text ----

    public int feed(int a, int b, int c, int d, int e) {
        if (reader.length > MOST_BYTES - FED_BYTES) {
            return NONE;
        }
        reader.putBytes(a);
        reader.putBytes(b);
        reader.putBytes(c);
        reader.putBytes(d);
        reader.putBytes(e);
        return reader.length;
    }

    public int end(int n) {
        if (n < 0 || n > reader.length) {
            return NONE;
        }
        reader.length = n;
        return n;
    }

    public int field() {
        boolean sound = reader.readInto(draft);
        // The document's '(empty then)' is taken for a faulty text too; 'all stays' for the FIELD and its acts.
        reader.length = 0;
        if (!sound) {
            return FAULTY;
        }
        land.takeFrom(draft);
        forgetSeasons();
        return land.lines;
    }

    public int fault(int what) {
        if (what == 0) {
            return reader.fault;
        }
        return what == 1 ? reader.place : NONE;
    }

    // ---- what is asked of every call ----

    private boolean isPerson(int person) {
        return person >= 0 && person < land.persons;
    }

    private boolean arePair(int person, int other) {
        return isPerson(person) && isPerson(other) && person != other;
    }

    private boolean isKind(int kind) {
        return kind >= 0 && kind < land.kinds;
    }

    private boolean isSeason(int season) {
        return land.there && season >= 0 && season < SEASONS;
    }

    private boolean isPersonIn(int person, int season) {
        return isPerson(person) && isSeason(season);
    }

    private boolean isKindIn(int kind, int season) {
        return isKind(kind) && isSeason(season);
    }

    private static boolean isChoice(int choice) {
        return choice == 0 || choice == 1;
    }

    private static boolean isSlot(int slot) {
        return slot >= 0 && slot < SLOTS;
    }

    private static boolean isImage(int k) {
        return k >= 0 && k < IMAGES;
    }

    private void forgetSeasons() {
        seasonsStale = true;
        ordersStale = true;
    }

    /** The SEASON, with all that follows from the acts; the number has been looked at before. */
    private Season seasonAt(int season) {
        if (seasonsStale) {
            for (int i = 0; i < SEASONS; i++) {
                if (i == 0) {
                    seasons[i].beginWith(land);
                } else {
                    seasons[i].followOn(seasons[i - 1], land.fades);
                }
                land.actIn(i, seasons[i]);
                seasons[i].settle();
            }
            seasonsStale = false;
        }
        return seasons[season];
    }

    // ---- people and plots, season by season ----

    public int taste(int person, int kind) {
        return isPerson(person) && isKind(kind) ? land.told[person * MOST_KINDS + kind] : NO_TASTE;
    }

    public int likes(int person, int kind, int season) {
        if (!isPersonIn(person, season) || !isKind(kind)) {
            return NO_TASTE;
        }
        return seasonAt(season).tasteOf(person, kind);
    }

    public int hates(int person, int season) {
        return isPersonIn(person, season) ? seasonAt(season).hated(person) : NO_SUCH;
    }

    public int open(int person, int season) {
        return isPersonIn(person, season) ? seasonAt(season).shown[person] : NO_SUCH;
    }

    public int haters(int kind, int season) {
        if (!isKindIn(kind, season)) {
            return NO_SUCH;
        }
        Season now = seasonAt(season);
        int set = 0;
        for (int p = 0; p < land.persons; p++) {
            if (holds(now.shown[p], kind)) {
                set |= 1 << p;
            }
        }
        return set;
    }

    public int on(int plot, int season) {
        return isPersonIn(plot, season) ? seasonAt(season).row[plot] : NO_SUCH;
    }

    public int plot(int person, int season) {
        return isPersonIn(person, season) ? seasonAt(season).plotOf(person) : NO_SUCH;
    }

    public int decides(int person, int season) {
        return isPersonIn(person, season) ? seasonAt(season).decider[person] : NO_SUCH;
    }

    public int may(int person, int season) {
        if (!isPersonIn(person, season)) {
            return NO_SUCH;
        }
        Season now = seasonAt(season);
        return now.allowedBy(now.decider[person]);
    }

    public int grows(int person, int season) {
        return isPersonIn(person, season) ? seasonAt(season).grown[person] : NO_SUCH;
    }

    public int bare(int season) {
        return isSeason(season) ? seasonAt(season).growersOf(NONE) : NO_SUCH;
    }

    public int growers(int kind, int season) {
        return isKindIn(kind, season) ? seasonAt(season).growersOf(kind) : NO_SUCH;
    }

    public int kinds(int season) {
        if (!isSeason(season)) {
            return NO_SUCH;
        }
        int grown = 0;
        for (int k = 0; k < land.kinds; k++) {
            if (seasonAt(season).growersOf(k) != 0) {
                grown++;
            }
        }
        return grown;
    }

    public int has(int person, int season) {
        return isPersonIn(person, season) ? seasonAt(season).shareOf(person) : NO_SHARE;
    }

    public int life(int person) {
        if (!isPerson(person)) {
            return NO_SHARE;
        }
        int sum = 0;
        for (int s = 0; s < SEASONS; s++) {
            sum += seasonAt(s).shareOf(person);
        }
        return sum;
    }

    public int all(int season) {
        return isSeason(season) ? seasonAt(season).sumOfShares() : NO_SUM;
    }

    public int happiest(int season) {
        if (!isSeason(season)) {
            return NO_SUCH;
        }
        Season now = seasonAt(season);
        int found = NONE;
        for (int p = 0; p < land.persons; p++) {
            if (found == NONE || now.shareOf(p) > now.shareOf(found)) {
                found = p;
            }
        }
        return found;
    }

    public int fails() {
        if (!land.there) {
            return NO_SUCH;
        }
        for (int s = 0; s < SEASONS; s++) {
            if (seasonAt(s).growersOf(NONE) != 0) {
                return s;
            }
        }
        return NONE;
    }

    public int peace() {
        if (!land.there) {
            return NO_SUCH;
        }
        for (int s = 0; s < SEASONS; s++) {
            if (!seasonAt(s).hasHate()) {
                return s;
            }
        }
        return NONE;
    }

    public int joy(int person, int season) {
        return isPersonIn(person, season) ? seasonAt(season).joyOf(person) : NO_SHARE;
    }

    public int smell(int person, int season) {
        return isPersonIn(person, season) ? seasonAt(season).stench[person] : NO_SUCH;
    }

    public int foe(int season) {
        if (!isSeason(season)) {
            return NO_SUCH;
        }
        Season now = seasonAt(season);
        int found = NONE;
        int most = 0;
        for (int k = 0; k < land.kinds; k++) {
            if (now.hateFor(k) > most) {
                most = now.hateFor(k);
                found = k;
            }
        }
        return found;
    }

    public int cools(int person, int kind) {
        if (!isPerson(person) || !isKind(kind)) {
            return NO_SUCH;
        }
        if (land.told[person * MOST_KINDS + kind] >= 0) {
            return NONE;
        }
        for (int s = 1; s < SEASONS; s++) {
            if (seasonAt(s).tasteOf(person, kind) >= 0) {
                return s;
            }
        }
        return NONE;
    }

    public int eats(int person, int kind) {
        if (!isPerson(person) || !isKind(kind)) {
            return NO_SUCH;
        }
        int times = 0;
        for (int s = 0; s < SEASONS; s++) {
            if (seasonAt(s).grown[person] == kind) {
                times++;
            }
        }
        return times;
    }

    public int lasts(int kind) {
        if (!isKind(kind)) {
            return NO_SUCH;
        }
        for (int s = SEASONS - 1; s >= 0; s--) {
            if (seasonAt(s).growersOf(kind) != 0) {
                return s;
            }
        }
        return NONE;
    }

    public int lean() {
        if (!land.there) {
            return NO_SUCH;
        }
        int found = 0;
        for (int s = 1; s < SEASONS; s++) {
            if (seasonAt(s).sumOfShares() < seasonAt(found).sumOfShares()) {
                found = s;
            }
        }
        return found;
    }

    public int change(int person) {
        if (!isPerson(person)) {
            return NO_SUCH;
        }
        for (int s = 1; s < SEASONS; s++) {
            if (seasonAt(s).grown[person] != seasonAt(0).grown[person]) {
                return s;
            }
        }
        return NONE;
    }

    public int uncle(int season) {
        if (!isSeason(season)) {
            return NO_SUCH;
        }
        Season now = seasonAt(season);
        int found = NONE;
        int most = -1;
        for (int p = 0; p < land.persons; p++) {
            int hated = Integer.bitCount(now.shown[p]);
            if (hated > most) {
                most = hated;
                found = p;
            }
        }
        return found;
    }

    public int saints(int season) {
        if (!isSeason(season)) {
            return NO_SUCH;
        }
        int set = 0;
        for (int p = 0; p < land.persons; p++) {
            if (seasonAt(season).shown[p] == 0) {
                set |= 1 << p;
            }
        }
        return set;
    }

    public int loves(int person, int season) {
        return isPersonIn(person, season) ? seasonAt(season).loved(person) : NO_SUCH;
    }

    // ---- other neighbours, other orders ----

    public int ahead(int person, int other) {
        return arePair(person, other) ? seasonAt(0).grownUnder(person, other) : NO_SUCH;
    }

    public int match(int person) {
        if (!isPerson(person)) {
            return NO_SUCH;
        }
        Season now = seasonAt(0);
        int found = NONE;
        int most = 0;
        for (int p = 0; p < land.persons; p++) {
            int joyful = now.tasteOf(person, now.grownUnder(person, p));
            if (p != person && (found == NONE || joyful > most)) {
                most = joyful;
                found = p;
            }
        }
        return found;
    }

    public int stay(int person) {
        if (!isPerson(person)) {
            return NO_SUCH;
        }
        int found = 0;
        int most = 0;
        for (int plot = 0; plot < land.persons; plot++) {
            int share = ifChanged(person, seasonAt(0).row[plot]).shareOf(person);
            if (plot == 0 || share > most) {
                most = share;
                found = plot;
            }
        }
        return found;
    }

    public int treaties() {
        if (!land.there) {
            return NO_SUCH;
        }
        int pairs = 0;
        for (int p = 0; p < land.persons; p++) {
            for (int q = p + 1; q < land.persons; q++) {
                if (gotBy(p, q, 1, 1) > gotBy(p, q, 0, 0) && gotBy(q, p, 1, 1) > gotBy(q, p, 0, 0)) {
                    pairs++;
                }
            }
        }
        return pairs;
    }

    private Orders ordersNow() {
        if (ordersStale) {
            orders.weigh(seasonAt(0));
            ordersStale = false;
        }
        return orders;
    }

    public int best() {
        return land.there ? ordersNow().best : NO_SUM;
    }

    public int order(int plot) {
        return isPerson(plot) ? ordersNow().first[plot] : NO_SUCH;
    }

    public int ways() {
        return land.there ? ordersNow().ways : NO_SUCH;
    }

    public int fewest() {
        return land.there ? ordersNow().fewest : NO_SUCH;
    }

    public int full() {
        return land.there ? ordersNow().full : NO_SUCH;
    }

    public int clear() {
        return land.there ? ordersNow().leastToGo(seasonAt(0)) : NO_SUCH;
    }

    // ---- what if, in SEASON 0 ----

    private Season ifChanged(int person, int other) {
        trial.takeFrom(seasonAt(0));
        trial.changePlots(person, other);
        trial.settle();
        return trial;
    }

    private Season ifHid(int person, int set) {
        trial.takeFrom(seasonAt(0));
        trial.hid[person] |= set;
        trial.settle();
        return trial;
    }

    private int sumIfTold(int person, int kind, int taste) {
        trial.takeFrom(seasonAt(0));
        trial.tastes[person * MOST_KINDS + kind] = taste;
        trial.settle();
        return trial.sumOfShares();
    }

    /** What the first of two GETS. */
    private int gotBy(int person, int other, int hides, int otherHides) {
        trial.takeFrom(seasonAt(0));
        if (hides == 1) {
            trial.hid[person] = MOST_SETS - 1;
        }
        if (otherHides == 1) {
            trial.hid[other] = MOST_SETS - 1;
        }
        trial.settle();
        return trial.shareOf(person) - hides * PRICE_OF_HIDING;
    }

    public int lie(int person) {
        return isPerson(person) ? leastLie(person) : NO_SUCH;
    }

    private int leastLie(int person) {
        Season now = seasonAt(0);
        int hated = now.shown[person];
        for (int k = 0; k < land.kinds; k++) {
            if (holds(hated, k) && ifHid(person, 1 << k).shareOf(person) > now.shareOf(person)) {
                return k;
            }
        }
        return NONE;
    }

    public int lies(int person) {
        if (!isPerson(person)) {
            return NO_SUCH;
        }
        int hated = seasonAt(0).shown[person];
        int most = seasonAt(0).shareOf(person);
        int found = 0;
        for (int set = 1; set <= hated; set++) {
            if ((set & ~hated) == 0) {
                int share = ifHid(person, set).shareOf(person);
                if (share > most || share == most && Integer.bitCount(set) < Integer.bitCount(found)) {
                    most = share;
                    found = set;
                }
            }
        }
        return found;
    }

    public int liars() {
        if (!land.there) {
            return NO_SUCH;
        }
        int set = 0;
        for (int p = 0; p < land.persons; p++) {
            if (leastLie(p) != NONE) {
                set |= 1 << p;
            }
        }
        return set;
    }

    public int rests(int person, int other) {
        if (!arePair(person, other)) {
            return NO_SUCH;
        }
        int set = 0;
        for (int pair = 0; pair < 4; pair++) {
            int mine = pair & 1;
            int his = pair >> 1;
            if (gotBy(person, other, mine, his) >= gotBy(person, other, 1 - mine, his)
                    && gotBy(other, person, his, mine) >= gotBy(other, person, 1 - his, mine)) {
                set |= 1 << pair;
            }
        }
        return set;
    }

    public int gets(int person, int other, int hides, int otherHides) {
        if (!arePair(person, other) || !isChoice(hides) || !isChoice(otherHides)) {
            return NO_SHARE;
        }
        return gotBy(person, other, hides, otherHides);
    }

    public int worth(int person, int kind, int n) {
        if (!isPerson(person) || !isKind(kind) || n < -MOST_TASTE || n > MOST_TASTE) {
            return NO_SUM;
        }
        return sumIfTold(person, kind, n) - seasonAt(0).sumOfShares();
    }

    public int learn(int person) {
        if (!isPerson(person)) {
            return NO_SUCH;
        }
        int most = seasonAt(0).sumOfShares();
        int found = NONE;
        for (int k = 0; k < land.kinds; k++) {
            int sum = sumIfTold(person, k, -1);
            if (sum > most) {
                most = sum;
                found = k;
            }
        }
        return found;
    }

    private boolean isTrade(int person, int other) {
        Season now = seasonAt(0);
        Season then = ifChanged(person, other);
        return then.shareOf(person) > now.shareOf(person) && then.shareOf(other) > now.shareOf(other);
    }

    public int trades() {
        if (!land.there) {
            return NO_SUCH;
        }
        int pairs = 0;
        for (int p = 0; p < land.persons; p++) {
            for (int q = p + 1; q < land.persons; q++) {
                if (isTrade(p, q)) {
                    pairs++;
                }
            }
        }
        return pairs;
    }

    public int trade() {
        if (!land.there) {
            return NO_SUCH;
        }
        for (int p = 0; p < land.persons; p++) {
            for (int q = p + 1; q < land.persons; q++) {
                if (isTrade(p, q)) {
                    return 10 * p + q;
                }
            }
        }
        return NONE;
    }

    public int gain(int person, int other) {
        if (!arePair(person, other)) {
            return NO_SHARE;
        }
        Season now = seasonAt(0);
        Season then = ifChanged(person, other);
        return then.shareOf(person) + then.shareOf(other) - now.shareOf(person) - now.shareOf(other);
    }

    // ---- spoons ----

    /** 0, and the table has heard the SLOT's row; else what is due instead of an answer. */
    private int hearSlot(int slot) {
        if (!isSlot(slot) || !land.there) {
            return NO_SUCH;
        }
        Slot told = slots[slot];
        if (!told.there) {
            return NOTHING_THERE;
        }
        if (told.length % 2 != 0) {
            return NO_SUCH;
        }
        for (int i = 0; i + 1 < told.length; i += 2) {
            long person = told.numbers[i];
            long kind = told.numbers[i + 1];
            if (person < 0 || person >= land.persons || kind < NONE || kind >= land.kinds) {
                return NO_SUCH;
            }
        }
        table.lay(land);
        table.hear(told);
        return 0;
    }

    public int spoons(int slot) {
        int refused = hearSlot(slot);
        return refused != 0 ? refused : table.fitting;
    }

    public int surely(int slot) {
        int refused = hearSlot(slot);
        if (refused != 0) {
            return refused;
        }
        return table.fitting == 0 ? NONE : table.kindsInAll();
    }

    public int never(int slot) {
        int refused = hearSlot(slot);
        if (refused != 0) {
            return refused;
        }
        return table.fitting == 0 ? NONE : table.kindsInNone();
    }

    public int ask(int slot) {
        int refused = hearSlot(slot);
        return refused != 0 ? refused : table.bestAsked();
    }

    public int leaves(int slot) {
        int refused = hearSlot(slot);
        if (refused != 0) {
            return refused;
        }
        int asked = table.bestAsked();
        return asked == NONE ? table.fitting : table.worstBehind(asked);
    }

    public int judges() {
        if (!land.there) {
            return NO_SUCH;
        }
        table.lay(land);
        return table.fewestJudges();
    }

    // ---- chance ----

    public int chance(int person, int what) {
        if (!isPerson(person) || !isChoice(what)) {
            return NO_SUCH;
        }
        return springs.reduced(springs.partsBare(seasonAt(0), person, land.odds), what);
    }

    public int mean(int what) {
        if (!land.there || !isChoice(what)) {
            return NO_SUCH;
        }
        int parts = 0;
        for (int p = 0; p < land.persons; p++) {
            parts += springs.partsBare(seasonAt(0), p, land.odds);
        }
        return springs.reduced(parts, what);
    }

    public int likely(int person) {
        if (!isPerson(person)) {
            return NO_SUCH;
        }
        Season now = seasonAt(0);
        if (now.decider[person] != NONE && land.odds == Springs.CERTAIN) {
            return NONE;
        }
        // Each KIND he likes less wants one hate more lost, so that it is less likely: the first one is likeliest.
        return now.grown[person];
    }

    // ---- acts ----

    public int swap(int person, int other, int season) {
        if (!isPersonIn(person, season) || !isPerson(other)) {
            return NO_SUCH;
        }
        if (!land.addAct(CHANGE_PLOTS, person, other, season)) {
            return REFUSED;
        }
        forgetSeasons();
        return person == other ? 0 : 1;
    }

    public int hide(int person, int kind, int season, int on) {
        if (!isPersonIn(person, season) || !isKind(kind) || !isChoice(on)) {
            return NO_SUCH;
        }
        boolean wasHid = holds(seasonAt(season).hid[person], kind);
        if (!land.addAct(on == 1 ? HIDE_HATE : SHOW_HATE, person, kind, season)) {
            return REFUSED;
        }
        forgetSeasons();
        return wasHid ? 1 : 0;
    }

    public int undo() {
        if (!land.there) {
            return NO_SUCH;
        }
        if (land.acts == 0) {
            return REFUSED;
        }
        land.acts--;
        forgetSeasons();
        return land.acts;
    }

    public int anew() {
        if (!land.there) {
            return NO_SUCH;
        }
        int taken = land.acts;
        land.acts = 0;
        forgetSeasons();
        return taken;
    }

    // ---- springs drawn ----

    public int drawn(int seed, int what) {
        if (!land.there || !isSeed(seed) || !isChoice(what)) {
            return NO_SUCH;
        }
        int lost = springs.drawInto(trial, seasonAt(0), seed, land.odds);
        return what == 1 ? lost : trial.growersOf(NONE);
    }

    private static boolean isSeed(int seed) {
        return seed >= 0 && seed <= MOST_SEED;
    }

    public int luck(int seed, int n, int person) {
        if (!isPerson(person) || !isSeed(seed) || n < 1 || n > MOST_SPRINGS) {
            return NO_SUCH;
        }
        int times = 0;
        for (int i = 0; i < n; i++) {
            springs.drawInto(trial, seasonAt(0), seed + i, land.odds);
            if (trial.grown[person] == NONE) {
                times++;
            }
        }
        return times;
    }

    public int rate(int n) {
        if (!land.there || n < 0 || n > MOST_FADES) {
            return NO_SUCH;
        }
        if (land.acts > 0) {
            return REFUSED;
        }
        int before = land.fades;
        land.fades = n;
        forgetSeasons();
        return before;
    }

    // ---- counts, images, rows ----

    public int count(int what) {
        switch (what) {
            case 0:
                return land.kinds;
            case 1:
                return land.law;
            case 2:
                return land.fades;
            case 3:
                return land.odds;
            case 4:
                return land.persons;
            case 5:
                return land.acts;
            case 6:
                return land.lines;
            case 7:
                return reader.length;
            case 8:
                return slotsThere();
            default:
                return NONE;
        }
    }

    private int slotsThere() {
        int there = 0;
        for (int i = 0; i < SLOTS; i++) {
            if (slots[i].there) {
                there++;
            }
        }
        return there;
    }

    public int image(int k) {
        if (!isImage(k)) {
            return NO_SUCH;
        }
        images[k].takeFrom(land);
        imageKept[k] = true;
        return 0;
    }

    public int back(int k) {
        if (!isImage(k)) {
            return NO_SUCH;
        }
        if (!imageKept[k]) {
            return NOTHING_THERE;
        }
        land.takeFrom(images[k]);
        forgetSeasons();
        return 0;
    }

    public int row(int slot, int width, int n) {
        if (!isSlot(slot) || width < 0 || width >= WIDTHS || n > MOST_NUMBERS) {
            return NO_SUCH;
        }
        if (n < 0) {
            return BELOW_NOTHING;
        }
        slots[slot].begin(width, n);
        return 0;
    }

    public int write(int slot, int i, long v) {
        if (!isSlot(slot)) {
            return NO_SUCH;
        }
        Slot target = slots[slot];
        if (!target.there) {
            return NOTHING_THERE;
        }
        if (i < 0 || i >= target.length) {
            return BEYOND;
        }
        target.numbers[i] = target.cut(v);
        return 0;
    }

    public int paste(int slot, int i, int to, int k, int n) {
        if (!isSlot(slot) || !isSlot(to)) {
            return NO_SUCH;
        }
        Slot source = slots[slot];
        Slot target = slots[to];
        if (!source.there || !target.there) {
            return NOTHING_THERE;
        }
        if (source.width != target.width) {
            return OTHER_WIDTH;
        }
        if (!source.hasPart(i, n) || !target.hasPart(k, n)) {
            return BEYOND;
        }
        System.arraycopy(source.numbers, i, target.numbers, k, n);
        return 0;
    }

    // ---- shared by the classes below ----

    private static boolean holds(int set, int member) {
        return (set >> member & 1) == 1;
    }

    /** Of a set of KINDS the one for which the PERSON's TASTE is greatest, the least of several; NONE of no KIND. */
    private static int favourite(int[] tastes, int person, int set) {
        int found = NONE;
        int most = 0;
        for (int k = 0; k < MOST_KINDS; k++) {
            int liking = tastes[person * MOST_KINDS + k];
            if ((set >> k & 1) == 1 && (found == NONE || liking > most)) {
                most = liking;
                found = k;
            }
        }
        return found;
    }

    /** Who DECIDES for the one on a plot of the row; NONE: nobody. */
    private static int deciderAt(int[] row, int length, int plot, int law) {
        if (plot + 1 < length) {
            return row[plot + 1];
        }
        if (law == LAW_FIRST) {
            return row[0];
        }
        return law == LAW_LEFT && length > 1 ? row[length - 2] : NONE;
    }

    /** The FIELD as told, and the acts done in it. */
    private static final class Land {
        boolean there = false;
        int kinds = 0;
        int law = 0;
        int fades = 0;
        int odds = 0;
        int persons = 0;
        int lines = 0;
        final int[] told = new int[MOST_PERSONS * MOST_KINDS];
        int acts = 0;
        final int[] actSort = new int[MOST_ACTS];
        final int[] actPerson = new int[MOST_ACTS];
        final int[] actObject = new int[MOST_ACTS];
        final int[] actSeason = new int[MOST_ACTS];

        void wipe() {
            there = false;
            kinds = 0;
            law = 0;
            fades = 0;
            odds = 0;
            persons = 0;
            lines = 0;
            Arrays.fill(told, 0);
            acts = 0;
        }

        void takeFrom(Land other) {
            there = other.there;
            kinds = other.kinds;
            law = other.law;
            fades = other.fades;
            odds = other.odds;
            persons = other.persons;
            lines = other.lines;
            System.arraycopy(other.told, 0, told, 0, told.length);
            acts = other.acts;
            System.arraycopy(other.actSort, 0, actSort, 0, acts);
            System.arraycopy(other.actPerson, 0, actPerson, 0, acts);
            System.arraycopy(other.actObject, 0, actObject, 0, acts);
            System.arraycopy(other.actSeason, 0, actSeason, 0, acts);
        }

        /** The object is the other PERSON, or the KIND. */
        boolean addAct(int sort, int person, int object, int season) {
            if (acts >= MOST_ACTS) {
                return false;
            }
            actSort[acts] = sort;
            actPerson[acts] = person;
            actObject[acts] = object;
            actSeason[acts] = season;
            acts++;
            return true;
        }

        /** Does the acts of one SEASON, as they were given, to what it has from the SEASON ahead of it. */
        void actIn(int season, Season now) {
            for (int i = 0; i < acts; i++) {
                if (actSeason[i] == season) {
                    if (actSort[i] == CHANGE_PLOTS) {
                        now.changePlots(actPerson[i], actObject[i]);
                    } else if (actSort[i] == HIDE_HATE) {
                        now.hid[actPerson[i]] |= 1 << actObject[i];
                    } else {
                        now.hid[actPerson[i]] &= ~(1 << actObject[i]);
                    }
                }
            }
        }
    }

    /** The TAPE; reads it into a FIELD, and keeps the first FAULT of the latest one. */
    private static final class Reader {
        private static final int END = 0;
        private static final int WORD = 1;
        private static final int NUMBER = 2;
        private static final int SIGN = 3;
        private static final int ALIEN = 4;

        private static final int MISPLACED = 1;
        private static final int OUT_OF_BOUNDS = 2;
        private static final int ONE_TOO_MANY = 3;
        // Above every bound: a longer number is out of bounds, too.
        private static final int GREAT = 1000;

        int fault = 0;
        int place = NONE;
        int length = 0;
        private final byte[] text = new byte[MOST_BYTES];
        private int behind = 0;
        private int start = 0;
        private int sort = END;
        private int number = 0;
        private int taken = 0;

        void putBytes(int number) {
            for (int shift = 24; shift >= 0; shift -= 8) {
                if (length < MOST_BYTES) {
                    text[length] = (byte) (number >> shift);
                    length++;
                }
            }
        }

        boolean readInto(Land land) {
            behind = 0;
            fault = 0;
            place = NONE;
            land.wipe();
            step();
            for (int i = 0; i <= length && sort != END; i++) {
                boolean sound = land.lines == 0 ? readHead(land) : readPerson(land);
                if (!sound || !takeSign()) {
                    return false;
                }
                land.lines++;
            }
            land.there = land.lines > 0;
            return true;
        }

        private boolean readHead(Land land) {
            if (!takeWord("field") || !takeWord("kinds") || !takeNumber(1, MOST_KINDS)) {
                return false;
            }
            land.kinds = taken;
            if (!takeWord("law") || !takeNumber(0, LAW_LEFT)) {
                return false;
            }
            land.law = taken;
            if (!takeWord("fades") || !takeNumber(0, MOST_FADES)) {
                return false;
            }
            land.fades = taken;
            if (!takeWord("odds") || !takeNumber(0, Springs.CERTAIN)) {
                return false;
            }
            land.odds = taken;
            return true;
        }

        private boolean readPerson(Land land) {
            if (isWord("person") && land.persons >= MOST_PERSONS) {
                return fail(ONE_TOO_MANY);
            }
            if (!takeWord("person")) {
                return false;
            }
            int person = land.persons;
            land.persons++;
            for (int i = 0; i <= length && sort == WORD; i++) {
                boolean lovesIt = isWord("loves");
                if (!lovesIt && !isWord("hates")) {
                    return fail(MISPLACED);
                }
                step();
                if (!takeNumber(0, land.kinds - 1)) {
                    return false;
                }
                int kind = taken;
                if (!takeNumber(1, MOST_TASTE)) {
                    return false;
                }
                land.told[person * MOST_KINDS + kind] = lovesIt ? taken : -taken;
            }
            return true;
        }

        private boolean fail(int what) {
            fault = what;
            place = start;
            return false;
        }

        private boolean takeWord(String word) {
            if (!isWord(word)) {
                return fail(MISPLACED);
            }
            step();
            return true;
        }

        private boolean takeNumber(int least, int most) {
            if (sort != NUMBER) {
                return fail(MISPLACED);
            }
            if (number < least || number > most) {
                return fail(OUT_OF_BOUNDS);
            }
            taken = number;
            step();
            return true;
        }

        private boolean takeSign() {
            if (sort != SIGN) {
                return fail(MISPLACED);
            }
            step();
            return true;
        }

        private boolean isWord(String word) {
            if (sort != WORD || behind - start != word.length()) {
                return false;
            }
            for (int i = 0; i < word.length(); i++) {
                if (text[start + i] != word.charAt(i)) {
                    return false;
                }
            }
            return true;
        }

        private boolean isBlank(int at) {
            return text[at] == 32 || text[at] == 10;
        }

        private boolean isLetter(int at) {
            return text[at] >= 'a' && text[at] <= 'z';
        }

        private boolean isDigit(int at) {
            return text[at] >= '0' && text[at] <= '9';
        }

        /** Goes on to the next TOKEN: its first byte is at start, the byte behind it at behind. */
        private void step() {
            while (behind < length && isBlank(behind)) {
                behind++;
            }
            start = behind;
            if (start >= length) {
                sort = END;
            } else if (isLetter(start)) {
                stepOverWord();
            } else if (isDigit(start)) {
                stepOverNumber();
            } else {
                sort = text[start] == ';' ? SIGN : ALIEN;
                behind++;
            }
        }

        private void stepOverWord() {
            sort = WORD;
            while (behind < length && isLetter(behind)) {
                behind++;
            }
        }

        private void stepOverNumber() {
            sort = NUMBER;
            number = 0;
            while (behind < length && isDigit(behind)) {
                number = Math.min(number * 10 + text[behind] - '0', GREAT);
                behind++;
            }
        }
    }

    /** One SEASON: who is where, what they like and hide, and what follows from it (settle). */
    private static final class Season {
        int kinds = 0;
        int law = 0;
        int persons = 0;
        final int[] tastes = new int[MOST_PERSONS * MOST_KINDS];
        final int[] row = new int[MOST_PERSONS];
        final int[] hid = new int[MOST_PERSONS];
        final int[] shown = new int[MOST_PERSONS];
        final int[] decider = new int[MOST_PERSONS];
        final int[] grown = new int[MOST_PERSONS];
        final int[] stench = new int[MOST_PERSONS];

        void beginWith(Land land) {
            kinds = land.kinds;
            law = land.law;
            persons = land.persons;
            System.arraycopy(land.told, 0, tastes, 0, tastes.length);
            for (int p = 0; p < MOST_PERSONS; p++) {
                row[p] = p;
                hid[p] = 0;
            }
        }

        void takeFrom(Season other) {
            kinds = other.kinds;
            law = other.law;
            persons = other.persons;
            System.arraycopy(other.tastes, 0, tastes, 0, tastes.length);
            System.arraycopy(other.row, 0, row, 0, row.length);
            System.arraycopy(other.hid, 0, hid, 0, hid.length);
        }

        void followOn(Season before, int fades) {
            takeFrom(before);
            for (int p = 0; p < persons; p++) {
                int eaten = before.grown[p];
                if (eaten != NONE) {
                    int at = p * MOST_KINDS + eaten;
                    tastes[at] = Math.min(tastes[at] + 1, MOST_TASTE);
                }
            }
            for (int i = 0; i < tastes.length; i++) {
                if (tastes[i] < 0) {
                    tastes[i] = Math.min(tastes[i] + fades, 0);
                }
            }
        }

        void changePlots(int person, int other) {
            int from = plotOf(person);
            int to = plotOf(other);
            row[from] = other;
            row[to] = person;
        }

        int plotOf(int person) {
            for (int plot = 0; plot < persons; plot++) {
                if (row[plot] == person) {
                    return plot;
                }
            }
            return 0;
        }

        void settle() {
            for (int p = 0; p < persons; p++) {
                shown[p] = hated(p) & ~hid[p];
                stench[p] = 0;
            }
            for (int plot = 0; plot < persons; plot++) {
                int person = row[plot];
                decider[person] = deciderAt(row, persons, plot, law);
                grown[person] = grownUnder(person, decider[person]);
            }
            for (int p = 0; p < persons; p++) {
                if (decider[p] != NONE) {
                    stench[decider[p]] += stenchFrom(p, decider[p], grown[p]);
                }
            }
        }

        /** What a PERSON GROWS, if that one (NONE: nobody) DECIDES for him. */
        int grownUnder(int person, int who) {
            return favourite(tastes, person, allowedBy(who));
        }

        int allowedBy(int who) {
            if (who != NONE) {
                return shown[who];
            }
            return law == LAW_ALL ? (1 << kinds) - 1 : 0;
        }

        /** How much less that one HAS by what a PERSON grows for whom he DECIDES. */
        int stenchFrom(int person, int who, int kind) {
            return who == NONE || who == person ? 0 : Math.max(-tasteOf(who, kind), 0);
        }

        /** 0 for no KIND: what a bare plot gives. */
        int tasteOf(int person, int kind) {
            return kind == NONE ? 0 : tastes[person * MOST_KINDS + kind];
        }

        int hated(int person) {
            int set = 0;
            for (int k = 0; k < kinds; k++) {
                if (tastes[person * MOST_KINDS + k] < 0) {
                    set |= 1 << k;
                }
            }
            return set;
        }

        int loved(int person) {
            int set = 0;
            for (int k = 0; k < kinds; k++) {
                if (tastes[person * MOST_KINDS + k] > 0) {
                    set |= 1 << k;
                }
            }
            return set;
        }

        boolean hasHate() {
            for (int p = 0; p < persons; p++) {
                if (hated(p) != 0) {
                    return true;
                }
            }
            return false;
        }

        int hateFor(int kind) {
            int sum = 0;
            for (int p = 0; p < persons; p++) {
                sum += Math.max(-tasteOf(p, kind), 0);
            }
            return sum;
        }

        /** PERSONS who GROW a KIND (NONE: whose plots are bare), as bits. */
        int growersOf(int kind) {
            int set = 0;
            for (int p = 0; p < persons; p++) {
                if (grown[p] == kind) {
                    set |= 1 << p;
                }
            }
            return set;
        }

        int joyOf(int person) {
            return tasteOf(person, grown[person]);
        }

        int shareOf(int person) {
            return joyOf(person) - stench[person];
        }

        int sumOfShares() {
            int sum = 0;
            for (int p = 0; p < persons; p++) {
                sum += shareOf(p);
            }
            return sum;
        }
    }

    /** All ORDERS of the PERSONS in SEASON 0: what they give together, which plots are bare. */
    private static final class Orders {
        // What a PERSON GROWS hangs on who DECIDES for him alone: so a table by both, nobody in column 0.
        private static final int COLUMNS = MOST_PERSONS + 1;

        int best = 0;
        int ways = 0;
        int fewest = 0;
        int full = 0;
        final int[] first = new int[MOST_PERSONS];
        private final int[] worthOf = new int[MOST_PERSONS * COLUMNS];
        private final int[] bareOf = new int[MOST_PERSONS * COLUMNS];
        private final int[] row = new int[MOST_PERSONS];
        private int persons = 0;
        private int law = 0;
        private int sum = 0;
        private int bares = 0;

        void weigh(Season now) {
            persons = now.persons;
            law = now.law;
            fillTables(now);
            ways = 0;
            full = 0;
            for (int p = 0; p < persons; p++) {
                row[p] = p;
            }
            boolean more = true;
            for (int i = 0; i < MOST_ORDERS && more; i++) {
                weighRow(i == 0);
                more = goToNextRow();
            }
        }

        private void fillTables(Season now) {
            for (int p = 0; p < persons; p++) {
                for (int who = NONE; who < persons; who++) {
                    int kind = now.grownUnder(p, who);
                    int at = p * COLUMNS + who + 1;
                    worthOf[at] = now.tasteOf(p, kind) - now.stenchFrom(p, who, kind);
                    bareOf[at] = kind == NONE ? 1 : 0;
                }
            }
        }

        private void weighRow(boolean isFirst) {
            sumUp(persons);
            if (isFirst || sum > best) {
                best = sum;
                ways = 0;
                System.arraycopy(row, 0, first, 0, persons);
            }
            if (sum == best) {
                ways++;
            }
            fewest = isFirst ? bares : Math.min(fewest, bares);
            if (bares == 0) {
                full++;
            }
        }

        private void sumUp(int length) {
            sum = 0;
            bares = 0;
            for (int plot = 0; plot < length; plot++) {
                int at = row[plot] * COLUMNS + deciderAt(row, length, plot, law) + 1;
                sum += worthOf[at];
                bares += bareOf[at];
            }
        }

        /** Makes the row the next greater one; false, if it is the greatest. */
        private boolean goToNextRow() {
            int pivot = persons - 2;
            while (pivot >= 0 && row[pivot] > row[pivot + 1]) {
                pivot--;
            }
            if (pivot < 0) {
                return false;
            }
            int next = persons - 1;
            while (next > pivot && row[next] < row[pivot]) {
                next--;
            }
            exchange(pivot, next);
            int right = persons - 1;
            for (int left = pivot + 1; left < right; left++) {
                exchange(left, right);
                right--;
            }
            return true;
        }

        private void exchange(int plot, int other) {
            int kept = row[plot];
            row[plot] = row[other];
            row[other] = kept;
        }

        /** The least set of fewest who go so that no plot of the others, moved together, is bare. */
        int leastToGo(Season now) {
            int found = (1 << persons) - 1;
            for (int gone = 0; gone < 1 << persons; gone++) {
                int stayed = 0;
                for (int plot = 0; plot < persons; plot++) {
                    if (!holds(gone, now.row[plot])) {
                        row[stayed] = now.row[plot];
                        stayed++;
                    }
                }
                sumUp(stayed);
                if (bares == 0 && Integer.bitCount(gone) < Integer.bitCount(found)) {
                    found = gone;
                }
            }
            return found;
        }
    }

    /** What an unknown PERSON can hate, by what those ahead of him would GROW. */
    private static final class Spoons {
        int fitting = 0;
        private final int[] answers = new int[MOST_PERSONS * MOST_SETS];
        private final boolean[] fits = new boolean[MOST_SETS];
        private final int[] tally = new int[MOST_KINDS + 1];
        private int persons = 0;
        private int kinds = 0;
        private int sets = 0;

        void lay(Land land) {
            persons = land.persons;
            kinds = land.kinds;
            sets = 1 << kinds;
            for (int p = 0; p < persons; p++) {
                for (int set = 0; set < sets; set++) {
                    answers[p * MOST_SETS + set] = favourite(land.told, p, set);
                }
            }
        }

        /** The row's numbers have been looked at before. */
        void hear(Slot told) {
            fitting = 0;
            for (int set = 0; set < sets; set++) {
                fits[set] = true;
                for (int i = 0; i + 1 < told.length; i += 2) {
                    int person = (int) told.numbers[i];
                    if (answers[person * MOST_SETS + set] != told.numbers[i + 1]) {
                        fits[set] = false;
                    }
                }
                if (fits[set]) {
                    fitting++;
                }
            }
        }

        int kindsInAll() {
            int common = sets - 1;
            for (int set = 0; set < sets; set++) {
                if (fits[set]) {
                    common &= set;
                }
            }
            return common;
        }

        int kindsInNone() {
            int any = 0;
            for (int set = 0; set < sets; set++) {
                if (fits[set]) {
                    any |= set;
                }
            }
            return sets - 1 & ~any;
        }

        /** How many sets are left at worst, once that PERSON has been asked. */
        int worstBehind(int person) {
            Arrays.fill(tally, 0);
            int worst = 0;
            for (int set = 0; set < sets; set++) {
                if (fits[set]) {
                    int at = answers[person * MOST_SETS + set] + 1;
                    tally[at]++;
                    worst = Math.max(worst, tally[at]);
                }
            }
            return worst;
        }

        int bestAsked() {
            int found = NONE;
            int least = fitting;
            for (int p = 0; p < persons; p++) {
                int worst = worstBehind(p);
                if (worst < least) {
                    least = worst;
                    found = p;
                }
            }
            return found;
        }

        /**
         * The set of all KINDS is told from the one without a KIND only by those who would GROW that KIND of all; and
         * these GROW it of each set that has it. So one for each KIND is wanted, and enough: the first one.
         */
        int fewestJudges() {
            int found = 0;
            for (int kind = 0; kind < kinds; kind++) {
                int judge = firstWith(kind);
                if (judge == NONE) {
                    return NONE;
                }
                found |= 1 << judge;
            }
            return found;
        }

        private int firstWith(int kind) {
            for (int p = 0; p < persons; p++) {
                if (answers[p * MOST_SETS + sets - 1] == kind) {
                    return p;
                }
            }
            return NONE;
        }
    }

    /** Hates lost by chance, and by draws. */
    private static final class Springs {
        static final int CERTAIN = 10;
        // 10 to the 5th: nobody has more than 5 hates to lose, so each chance is a whole number of such parts.
        private static final int PARTS = 100000;
        // More than the common divisor of two ints ever wants.
        private static final int MOST_DIVISIONS = 64;

        /** The chance that a PERSON's plot is bare, in PARTS. */
        int partsBare(Season now, int person, int odds) {
            int who = now.decider[person];
            int parts = now.law == LAW_ALL && who == NONE ? 0 : PARTS;
            if (who != NONE) {
                int hates = Integer.bitCount(now.shown[who]);
                for (int i = 0; i < hates; i++) {
                    parts = parts / CERTAIN * odds;
                }
            }
            return parts;
        }

        /** Above (what 0) or below (1) of so many PARTS, in lowest terms. */
        int reduced(int parts, int what) {
            int divisor = PARTS;
            int rest = parts;
            for (int i = 0; i < MOST_DIVISIONS && rest != 0; i++) {
                int next = divisor % rest;
                divisor = rest;
                rest = next;
            }
            if (divisor < 1) {
                return 0;
            }
            return what == 0 ? parts / divisor : PARTS / divisor;
        }

        /** The spring drawn from a seed, settled: how many hates are lost. */
        int drawInto(Season spring, Season now, int seed, int odds) {
            spring.takeFrom(now);
            long x = seed;
            int lost = 0;
            for (int p = 0; p < now.persons; p++) {
                int hated = now.shown[p];
                for (int k = 0; k < now.kinds; k++) {
                    if (holds(hated, k)) {
                        x = 1103515245L * x + 12345L & 0x7fffffffL;
                        if (x / 65536L % 10L < odds) {
                            spring.hid[p] |= 1 << k;
                            lost++;
                        }
                    }
                }
            }
            spring.settle();
            return lost;
        }
    }

    /** A row of numbers of one WIDTH, or nothing. */
    private static final class Slot {
        boolean there = false;
        int width = 0;
        int length = 0;
        final long[] numbers = new long[MOST_NUMBERS];

        void begin(int newWidth, int newLength) {
            there = true;
            width = newWidth;
            length = newLength;
            Arrays.fill(numbers, 0L);
        }

        long cut(long v) {
            switch (width) {
                case 0:
                    return (byte) v;
                case 1:
                    return (short) v;
                case 2:
                    return (int) v;
                default:
                    return v;
            }
        }

        boolean hasPart(int from, int n) {
            return from >= 0 && n >= 0 && from <= length && n <= length - from;
        }
    }
}
