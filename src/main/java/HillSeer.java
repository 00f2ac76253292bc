/**
 * A king hires a seer to curse a people who camp below his hills. What each call promises is told by
 * ../shared/DOC.md; this class keeps to the part of Java that ../shared/LANGUAGE.md leaves.
 *
 * <p>All rows that a call needs are made with the object and used again, so that no call makes anything.
 */
public final class HillSeer {
    public static final int BAD = -1, FULL = -2, FINDING = -3, STATE = -4, SPENT = -6, NONE = -9;

    private static final int NOTHING = 1, BEYOND = 2, UNLIKE = 3, NOUGHT = 4, SIZE = 5, FINDINGS = 5;
    private static final int ROWS = 6, ROW_ROOM = 40, TEXTS = 4, TEXT_ROOM = 60;
    private static final int TENTS = 12, HILLS = 6, DEEDS = 40, KEPT = 3;
    private static final int KIND_HILL = 0, KIND_BARE = 1, KIND_WOODED = 2, KIND_FOGGY = 3, KIND_HIGH = 4,
            KIND_FAR = 5, KINDS = 6;
    private static final int SILENCE = 0, BLESSING = 1, CURSE = 2, WORDS = 3;
    private static final int HILL_FACTS = 6, TENT_FACTS = 3, COUNTS = 11;
    private static final int BLANK = 32;
    /** What is GIVEN is written in a TEXT, and told by bits, as this much more. */
    private static final int GIVEN_SHIFT = 4, GIVENS = 10;
    private static final int FEE_SILENCE = 1, FEE_BLESSING = 0, FEE_CURSE = 3;
    private static final int NOTES_ROOM = 16, NOTE_DAYS = 100, RIDES_ROOM = 12;
    private static final int FEE_DAYS = 9, FEE_MOST = 9, CHANGES_MOST = 2, TURNS_MOST = 2;
    private static final int CHANCES = 12;
    private static final int LOTS_MOST = 20, LOT_FACTOR = 48271, LOT_MODULUS = 2147483647;
    /** DEEDS as they are noted: a DAY, or one of these and the HILL, or 12 times a TENT and another. */
    private static final int DEED_DAY = 0, DEED_SPEAK = 100, DEED_CHANGE = 200;

    private final Sheet[] rows = new Sheet[ROWS];
    private final Sheet[] texts = new Sheet[TEXTS];
    private final Reader reader = new Reader();
    private final Land land = new Land();
    private final Camp camp = new Camp(land);
    private final Camp trial = new Camp(land);
    private final Camp[] kept = new Camp[KEPT];
    private final boolean[] isKept = new boolean[KEPT];
    private final OrderSearch search = new OrderSearch();
    private final int[] findingCounts = new int[FINDINGS + 1];
    private int latestFinding = 0;
    private int told = 0;
    private long toldUpper = 0;
    private long toldLower = 1;

    public HillSeer() {
        for (int r = 0; r < ROWS; r++) {
            rows[r] = new Sheet(ROW_ROOM);
        }
        for (int t = 0; t < TEXTS; t++) {
            texts[t] = new Sheet(TEXT_ROOM);
        }
        for (int k = 0; k < KEPT; k++) {
            kept[k] = new Camp(land);
        }
    }

    // ---- 1 rows, texts, camps

    public int row(int r, int n) {
        if (!isRow(r) || n > ROW_ROOM) {
            return BAD;
        }
        if (n < 0) {
            return refuse(SIZE);
        }
        rows[r].open(n, 0);
        return n;
    }

    public int lay(int r, int i, int v) {
        if (!isRow(r)) {
            return BAD;
        }
        int fault = placeFault(rows[r], i);
        if (fault != 0) {
            return refuse(fault);
        }
        told = rows[r].get(i);
        rows[r].set(i, v);
        return 1;
    }

    public int at(int r, int i) {
        if (!isRow(r)) {
            return BAD;
        }
        int fault = placeFault(rows[r], i);
        if (fault != 0) {
            return refuse(fault);
        }
        told = rows[r].get(i);
        return 1;
    }

    public int tear(int r) {
        if (!isRow(r)) {
            return BAD;
        }
        if (rows[r].isMissing()) {
            return refuse(NOTHING);
        }
        rows[r].drop();
        return 1;
    }

    public int copy(int r, int i, int to, int j, int n) {
        if (!isRow(r) || !isRow(to)) {
            return BAD;
        }
        if (n < 0) {
            return refuse(SIZE);
        }
        if (rows[r].isMissing() || rows[to].isMissing()) {
            return refuse(NOTHING);
        }
        if (!rows[r].hasRun(i, n) || !rows[to].hasRun(j, n)) {
            return refuse(BEYOND);
        }
        rows[to].takeRun(j, rows[r], i, n);
        return 1;
    }

    public int mean(int r) {
        if (!isRow(r)) {
            return BAD;
        }
        if (rows[r].isMissing()) {
            return refuse(NOTHING);
        }
        int size = rows[r].size();
        if (size <= 0) {
            return refuse(NOUGHT);
        }
        told = (int) (rows[r].total() / size);
        return 1;
    }

    public int text(int t, int n) {
        if (!isText(t) || n > TEXT_ROOM) {
            return BAD;
        }
        if (n < 0) {
            return refuse(SIZE);
        }
        texts[t].open(n, BLANK);
        return n;
    }

    public int put(int t, int i, int v) {
        if (!isText(t)) {
            return BAD;
        }
        int fault = placeFault(texts[t], i);
        if (fault != 0) {
            return refuse(fault);
        }
        int before = texts[t].get(i);
        texts[t].set(i, (byte) v);
        return before + 1000;
    }

    public int fault(int t) {
        if (!isText(t)) {
            return BAD;
        }
        if (texts[t].isMissing()) {
            return refuse(NOTHING);
        }
        return reader.read(texts[t]);
    }

    public int camp(int t) {
        if (!isText(t)) {
            return BAD;
        }
        if (texts[t].isMissing()) {
            return refuse(NOTHING);
        }
        if (reader.read(texts[t]) != NONE) {
            return STATE;
        }
        land.take(reader);
        camp.pitch(reader.givens);
        for (int k = 0; k < KEPT; k++) {
            isKept[k] = false;
        }
        return land.size;
    }

    public int hill(int h, int what) {
        if (!isHill(h) || what < 0 || what >= HILL_FACTS) {
            return BAD;
        }
        told = hillFact(h, what);
        return 1;
    }

    public int tent(int i, int what) {
        if (!isTent(i) || what < 0 || what >= TENT_FACTS) {
            return BAD;
        }
        if (hasNoHills()) {
            return STATE;
        }
        if (what == 0) {
            told = camp.givens[i];
        } else if (what == 1) {
            told = camp.fateOf(i);
        } else {
            told = camp.hillsThatSee(i);
        }
        return 1;
    }

    public int mark(int h, int kind) {
        if (!isHill(h) || kind <= KIND_HILL || kind >= KINDS) {
            return BAD;
        }
        Hill hill = land.hills[h];
        if (!isOfKind(hill.kind, kind)) {
            return refuse(UNLIKE);
        }
        return hill.markAs(kind, camp.givens, camp.day);
    }

    // ---- 2 deeds

    public int speak(int h) {
        if (!isHill(h)) {
            return BAD;
        }
        if (camp.done >= DEEDS) {
            return FULL;
        }
        int word = camp.wordFrom(h);
        camp.doAndNote(DEED_SPEAK + h);
        return word;
    }

    public int day() {
        if (hasNoHills()) {
            return STATE;
        }
        if (camp.done >= DEEDS) {
            return FULL;
        }
        camp.doAndNote(DEED_DAY);
        return camp.day;
    }

    public int change(int i, int j) {
        if (!isTent(i) || !isTent(j) || i == j) {
            return BAD;
        }
        if (hasNoHills()) {
            return STATE;
        }
        if (camp.done >= DEEDS) {
            return FULL;
        }
        camp.doAndNote(DEED_CHANGE + TENTS * i + j);
        return camp.hillsThatBless();
    }

    public int undo(int n) {
        // From the number that the next DEED would have there are none yet: 0 are undone.
        if (n < 0 || n > camp.done) {
            return BAD;
        }
        int undone = camp.done - n;
        camp.goBackTo(n);
        return undone;
    }

    public int keep(int k) {
        if (!isKeepingPlace(k)) {
            return BAD;
        }
        if (hasNoHills()) {
            return STATE;
        }
        kept[k].take(camp);
        isKept[k] = true;
        return camp.done;
    }

    public int on(int k) {
        if (!isKeepingPlace(k)) {
            return BAD;
        }
        if (!isKept[k]) {
            return refuse(NOTHING);
        }
        camp.take(kept[k]);
        return camp.done;
    }

    // ---- 3 what is seen (aside)

    public int only(int h, int other) {
        if (!isHill(h) || !isHill(other) || h == other) {
            return BAD;
        }
        int tents = camp.seenFrom(h) & ~camp.seenFrom(other);
        told = Integer.bitCount(tents);
        return tents;
    }

    public int hidden() {
        if (hasNoHills()) {
            return STATE;
        }
        return ((1 << TENTS) - 1) & ~camp.seenFromAny(allHills());
    }

    public int fewest() {
        if (hasNoHills()) {
            return STATE;
        }
        int all = camp.seenFromAny(allHills());
        int best = allHills();
        for (int set = allHills(); set >= 0; set--) {
            // Going down, a set of as many is taken too: so the least number stays at last.
            if (Integer.bitCount(set) <= Integer.bitCount(best) && camp.seenFromAny(set) == all) {
                best = set;
            }
        }
        told = best;
        return Integer.bitCount(best);
    }

    public int waits(int h, int word) {
        if (!isHill(h) || !isWord(word)) {
            return BAD;
        }
        trial.take(camp);
        for (int days = 0; days < TENTS; days++) {
            if (trial.wordFrom(h) == word) {
                return days;
            }
            trial.goRound();
            trial.day++;
        }
        return NONE;
    }

    // ---- 4 orders of all HILLS (each once, this DAY)

    public int curse(int r) {
        if (!isRow(r)) {
            return BAD;
        }
        if (hasNoHills()) {
            return STATE;
        }
        search.goThrough(camp, 0);
        rows[r].takeAnew(search.mostPath, land.size);
        return search.most;
    }

    public int spare(int r) {
        if (!isRow(r)) {
            return BAD;
        }
        if (hasNoHills()) {
            return STATE;
        }
        search.goThrough(camp, 0);
        rows[r].takeAnew(search.leastPath, land.size);
        return search.least;
    }

    public int orders(int n) {
        if (n < 0 || n > TENTS) {
            return BAD;
        }
        if (hasNoHills()) {
            return STATE;
        }
        search.goThrough(camp, n);
        told = search.found > 0 ? search.common : 0;
        tellParts(search.found, 1);
        return 1;
    }

    public int rides(int r) {
        if (!isRow(r)) {
            return BAD;
        }
        if (hasNoHills()) {
            return STATE;
        }
        int fault = ridesFault(rows[r]);
        if (fault != 0) {
            return refuse(fault);
        }
        trial.take(camp);
        for (int i = 0; i < rows[r].size(); i++) {
            trial.sayFrom(rows[r].get(i));
        }
        told = trial.gold;
        return Integer.bitCount(trial.cursed);
    }

    // ---- 5 how to camp, fees

    public int blessed() {
        if (hasNoHills()) {
            return STATE;
        }
        trial.take(camp);
        if (trial.isBlessedByAll()) {
            told = NONE;
            return 0;
        }
        for (int changes = 1; changes <= CHANGES_MOST; changes++) {
            int first = firstChangeOf(trial, changes);
            if (first != NONE) {
                told = first;
                return changes;
            }
        }
        return NONE;
    }

    public int fees(int n, int silence, int blessing, int curse) {
        if (n < 0 || n > FEE_DAYS || !isFee(silence) || !isFee(blessing) || !isFee(curse)) {
            return BAD;
        }
        if (hasNoHills()) {
            return STATE;
        }
        trial.take(camp);
        int sum = 0;
        told = NONE;
        for (int days = 0; days < n; days++) {
            int best = bestHill(silence, blessing, curse);
            if (days == 0) {
                told = best;
            }
            sum += feeOf(trial.wordFrom(best), silence, blessing, curse);
            trial.day++;
        }
        return sum;
    }

    // ---- 6 from where it was

    public int from(int r) {
        if (!isRow(r)) {
            return BAD;
        }
        int fault = notesFault(rows[r]);
        if (fault != 0) {
            return refuse(fault);
        }
        int set = 0;
        for (int h = 0; h < land.size; h++) {
            Hill hill = land.hills[h];
            if (fits(rows[r], hill, hill.kind, camp.givens)) {
                set |= 1 << h;
            }
        }
        return set;
    }

    public int kinds(int h, int r) {
        if (!isHill(h) || !isRow(r)) {
            return BAD;
        }
        int fault = notesFault(rows[r]);
        if (fault != 0) {
            return refuse(fault);
        }
        int set = 0;
        for (int kind = 0; kind < KINDS; kind++) {
            if (fits(rows[r], land.hills[h], kind, camp.givens)) {
                set |= 1 << kind;
            }
        }
        return set;
    }

    public int given(int i, int h, int r) {
        if (!isTent(i) || !isHill(h) || !isRow(r)) {
            return BAD;
        }
        int fault = notesFault(rows[r]);
        if (fault != 0) {
            return refuse(fault);
        }
        Hill hill = land.hills[h];
        trial.take(camp);
        int set = 0;
        for (int figure = 0; figure < GIVENS; figure++) {
            trial.givens[i] = figure - GIVEN_SHIFT;
            if (fits(rows[r], hill, hill.kind, trial.givens)) {
                set |= 1 << figure;
            }
        }
        return set;
    }

    // ---- 7 by turns

    public int king(int n) {
        if (n < 0 || n > TURNS_MOST) {
            return BAD;
        }
        if (hasNoHills()) {
            return STATE;
        }
        trial.take(camp);
        return leastByPeople(n);
    }

    // ---- 8 chances, lots

    public int odds(int h, int p) {
        if (!isHill(h) || !isChance(p)) {
            return BAD;
        }
        tellParts(curseChance(camp.wordFrom(h), p), CHANCES);
        return 1;
    }

    public int mid(int p) {
        if (!isChance(p)) {
            return BAD;
        }
        if (hasNoHills()) {
            return STATE;
        }
        // The mean of a sum is the sum of means: each TENT is bound by the first HILL that binds it.
        int parts = CHANCES * Integer.bitCount(camp.cursed);
        int free = ((1 << TENTS) - 1) & ~(camp.blessed | camp.cursed);
        for (int h = 0; h < land.size; h++) {
            int word = camp.wordFrom(h);
            if (word != SILENCE) {
                int bound = free & camp.seenFrom(h);
                parts += Integer.bitCount(bound) * curseChance(word, p);
                free &= ~bound;
            }
        }
        tellParts(parts, CHANCES);
        return 1;
    }

    public int lots(int n, int seed) {
        if (n < 1 || n > LOTS_MOST || seed < 1 || seed >= LOT_MODULUS) {
            return BAD;
        }
        if (hasNoHills()) {
            return STATE;
        }
        if (camp.done + n > DEEDS) {
            return FULL;
        }
        int number = seed;
        for (int i = 0; i < n; i++) {
            number = (int) ((long) LOT_FACTOR * number % LOT_MODULUS);
            camp.doAndNote(deedByLot(number));
        }
        return camp.gold;
    }

    // ---- 9 what is told

    public int asked() {
        return told;
    }

    public long upper() {
        return toldUpper;
    }

    public long lower() {
        return toldLower;
    }

    public int count(int what) {
        if (what < 0 || what >= COUNTS) {
            return BAD;
        }
        switch (what) {
            case 0: return land.size;
            case 1: return camp.day;
            case 2: return camp.done;
            case 3: return camp.gold;
            case 4: return camp.blessed;
            case 5: return camp.cursed;
            case 6: return land.howManyOf(KIND_BARE);
            case 7: return land.howManyOf(KIND_WOODED);
            case 8: return howManyThere(rows);
            case 9: return howManyThere(texts);
            default: return howManyKept();
        }
    }

    public int finding() {
        return latestFinding;
    }

    public int findings(int f) {
        if (f < 1 || f > FINDINGS) {
            return BAD;
        }
        return findingCounts[f];
    }

    public long digest() {
        long h = 17;
        for (int what = 0; what < COUNTS; what++) {
            h = 31 * h + count(what);
        }
        if (!hasNoHills()) {
            for (int i = 0; i < TENTS; i++) {
                h = 31 * h + camp.givens[i];
            }
        }
        for (int i = 0; i < land.size; i++) {
            for (int what = 0; what < HILL_FACTS; what++) {
                h = 31 * h + hillFact(i, what);
            }
        }
        for (int k = 0; k < KEPT; k++) {
            h = 31 * h + (isKept[k] ? kept[k].done : -1);
        }
        return mixSheets(mixSheets(h, rows), texts);
    }

    // ---- what the calls share

    /** Answers FINDING, having noted which. */
    private int refuse(int finding) {
        latestFinding = finding;
        if (finding >= 1 && finding <= FINDINGS) {
            findingCounts[finding]++;
        }
        return FINDING;
    }

    private void tellParts(long upper, long lower) {
        long common = commonDivisor(upper, lower);
        if (common > 0) {
            toldUpper = upper / common;
            toldLower = lower / common;
        }
    }

    private static long commonDivisor(long a, long b) {
        // Euclid ends in some ninety steps for any two longs.
        for (int step = 0; step < 200 && b != 0; step++) {
            long rest = a % b;
            a = b;
            b = rest;
        }
        return a;
    }

    private static boolean isRow(int r) {
        return r >= 0 && r < ROWS;
    }

    private static boolean isText(int t) {
        return t >= 0 && t < TEXTS;
    }

    private static boolean isTent(int i) {
        return i >= 0 && i < TENTS;
    }

    private boolean isHill(int h) {
        return h >= 0 && h < land.size;
    }

    private static boolean isWord(int word) {
        return word >= 0 && word < WORDS;
    }

    private static boolean isKeepingPlace(int k) {
        return k >= 0 && k < KEPT;
    }

    private static boolean isFee(int fee) {
        return fee >= 0 && fee <= FEE_MOST;
    }

    private static boolean isChance(int p) {
        return p >= 0 && p <= CHANCES;
    }

    private boolean hasNoHills() {
        return land.size == 0;
    }

    private int allHills() {
        return (1 << land.size) - 1;
    }

    /** Whether a HILL of a KIND IS of another one, too: a HIGH one is BARE, a FAR one WOODED, each a HILL. */
    private static boolean isOfKind(int kind, int other) {
        return kind == other || other == KIND_HILL
                || kind == KIND_HIGH && other == KIND_BARE
                || kind == KIND_FAR && other == KIND_WOODED;
    }

    private static int wordOf(int sum) {
        return sum > 0 ? BLESSING : sum < 0 ? CURSE : SILENCE;
    }

    private static int feeOf(int word, int silence, int blessing, int curse) {
        return word == SILENCE ? silence : word == BLESSING ? blessing : curse;
    }

    private static int placeFault(Sheet sheet, int i) {
        if (sheet.isMissing()) {
            return NOTHING;
        }
        return sheet.has(i) ? 0 : BEYOND;
    }

    /** What is wrong with a ROW of pairs of a DAY and a WORD; 0: nothing. */
    private static int notesFault(Sheet notes) {
        if (notes.isMissing()) {
            return NOTHING;
        }
        if (notes.size() > NOTES_ROOM || notes.size() % 2 != 0) {
            return SIZE;
        }
        for (int i = 0; i < notes.size(); i += 2) {
            if (notes.get(i) < 0 || notes.get(i) >= NOTE_DAYS || !isWord(notes.get(i + 1))) {
                return UNLIKE;
            }
        }
        return 0;
    }

    private int ridesFault(Sheet ride) {
        if (ride.isMissing()) {
            return NOTHING;
        }
        if (ride.size() > RIDES_ROOM) {
            return SIZE;
        }
        for (int i = 0; i < ride.size(); i++) {
            if (!isHill(ride.get(i))) {
                return UNLIKE;
            }
        }
        return 0;
    }

    /** Whether all WORDS of notes would be said from a HILL if it were of a KIND. */
    private static boolean fits(Sheet notes, Hill hill, int kind, int[] givens) {
        for (int i = 0; i < notes.size(); i += 2) {
            if (wordOf(hill.sumAs(kind, givens, notes.get(i))) != notes.get(i + 1)) {
                return false;
            }
        }
        return true;
    }

    private int hillFact(int h, int what) {
        Hill hill = land.hills[h];
        switch (what) {
            case 0: return hill.kind;
            case 1: return hill.first;
            case 2: return hill.broad;
            case 3: return camp.seenFrom(h);
            case 4: return camp.sumFrom(h);
            default: return camp.wordFrom(h);
        }
    }

    /** The first CHANGE of the first row of so many by which all HILLS BLESS, or NONE. */
    private static int firstChangeOf(Camp tried, int changes) {
        for (int i = 0; i < TENTS; i++) {
            for (int j = i + 1; j < TENTS; j++) {
                tried.swap(i, j);
                boolean works = changes > 1 ? firstChangeOf(tried, changes - 1) != NONE : tried.isBlessedByAll();
                tried.swap(i, j);
                if (works) {
                    return TENTS * i + j;
                }
            }
        }
        return NONE;
    }

    /** The first of the HILLS that bring most on the trial's DAY. */
    private int bestHill(int silence, int blessing, int curse) {
        int best = 0;
        int most = -1;
        for (int h = 0; h < land.size; h++) {
            int fee = feeOf(trial.wordFrom(h), silence, blessing, curse);
            if (fee > most) {
                most = fee;
                best = h;
            }
        }
        return best;
    }

    private int leastByPeople(int turns) {
        if (turns <= 0) {
            return Integer.bitCount(trial.cursed);
        }
        int least = mostByKing(turns);
        for (int i = 0; i + 1 < TENTS; i++) {
            trial.swap(i, i + 1);
            least = Math.min(least, mostByKing(turns));
            trial.swap(i, i + 1);
        }
        return least;
    }

    private int mostByKing(int turns) {
        int blessedBefore = trial.blessed;
        int cursedBefore = trial.cursed;
        int most = 0;
        for (int h = 0; h < land.size; h++) {
            trial.sayFrom(h);
            most = Math.max(most, leastByPeople(turns - 1));
            trial.blessed = blessedBefore;
            trial.cursed = cursedBefore;
        }
        return most;
    }

    /** By how many of 12 a CURSE comes where a WORD is due. */
    private static int curseChance(int word, int p) {
        return word == CURSE ? CHANCES - p : word == BLESSING ? p : 0;
    }

    private int deedByLot(int number) {
        int sort = number / 8 % 4;
        if (sort == 0 || land.size <= 0) {
            return DEED_DAY;
        }
        if (sort == 1) {
            int tent = number % TENTS;
            return DEED_CHANGE + TENTS * tent + (tent + 1) % TENTS;
        }
        return DEED_SPEAK + number % land.size;
    }

    private static int howManyThere(Sheet[] sheets) {
        int many = 0;
        for (int i = 0; i < sheets.length; i++) {
            if (!sheets[i].isMissing()) {
                many++;
            }
        }
        return many;
    }

    private int howManyKept() {
        int many = 0;
        for (int k = 0; k < KEPT; k++) {
            if (isKept[k]) {
                many++;
            }
        }
        return many;
    }

    private static long mixSheets(long h, Sheet[] sheets) {
        for (int s = 0; s < sheets.length; s++) {
            h = 31 * h + sheets[s].size();
            for (int i = 0; i < sheets[s].size(); i++) {
                h = 31 * h + sheets[s].get(i);
            }
        }
        return h;
    }

    /** A ROW, or a TEXT: room for as many as it may ever have, of which some are there. */
    private static final class Sheet {
        private static final int MISSING = -1;
        private final int[] places;
        private int size = MISSING;

        Sheet(int room) {
            places = new int[room];
        }

        void open(int n, int filling) {
            size = Math.max(0, Math.min(n, places.length));
            for (int i = 0; i < size; i++) {
                places[i] = filling;
            }
        }

        void drop() {
            size = MISSING;
        }

        boolean isMissing() {
            return size == MISSING;
        }

        int size() {
            return size;
        }

        boolean has(int i) {
            return i >= 0 && i < size;
        }

        boolean hasRun(int i, int n) {
            // By a difference, since i + n may be more than an int holds.
            return i >= 0 && n >= 0 && i <= size && n <= size - i;
        }

        int get(int i) {
            return has(i) ? places[i] : 0;
        }

        void set(int i, int v) {
            if (has(i)) {
                places[i] = v;
            }
        }

        long total() {
            long sum = 0;
            for (int i = 0; i < size; i++) {
                sum += places[i];
            }
            return sum;
        }

        void takeRun(int j, Sheet other, int i, int n) {
            if (hasRun(j, n) && other.hasRun(i, n)) {
                System.arraycopy(other.places, i, places, j, n);
            }
        }

        void takeAnew(int[] values, int n) {
            open(Math.min(n, values.length), 0);
            System.arraycopy(values, 0, places, 0, size);
        }
    }

    /** Reads a TEXT as a CAMP; what it read holds if there was no FAULT. */
    private static final class Reader {
        private static final int LETTER_TENTS = 116;
        private static final int[] LETTERS = {104, 98, 119, 102, 105, 114};
        private final int[] givens = new int[TENTS];
        private final int[] kinds = new int[HILLS];
        private final int[] firsts = new int[HILLS];
        private final int[] broads = new int[HILLS];
        private int hills = 0;
        private int place = 0;

        /** The FAULT, or NONE. */
        int read(Sheet text) {
            hills = 0;
            place = 0;
            skipBlanks(text);
            if (!readTents(text)) {
                return place;
            }
            skipBlanks(text);
            while (hills < HILLS && text.has(place)) {
                if (!readHill(text)) {
                    return place;
                }
                hills++;
                skipBlanks(text);
            }
            return text.has(place) || hills == 0 ? place : NONE;
        }

        private void skipBlanks(Sheet text) {
            while (text.has(place) && text.get(place) == BLANK) {
                place++;
            }
        }

        /** If this or the next fails, place is where. */
        private boolean readTents(Sheet text) {
            if (!text.has(place) || text.get(place) != LETTER_TENTS) {
                return false;
            }
            place++;
            for (int i = 0; i < TENTS; i++) {
                int figure = figureHere(text);
                if (figure < 0) {
                    return false;
                }
                givens[i] = figure - GIVEN_SHIFT;
                place++;
            }
            return true;
        }

        private boolean readHill(Sheet text) {
            int kind = kindHere(text);
            if (kind < 0) {
                return false;
            }
            place++;
            int tens = figureHere(text);
            if (tens < 0 || 10 * tens >= TENTS) {
                return false;
            }
            place++;
            int ones = figureHere(text);
            if (ones < 0 || 10 * tens + ones >= TENTS) {
                return false;
            }
            place++;
            int broad = figureHere(text);
            if (broad < 1) {
                return false;
            }
            place++;
            kinds[hills] = kind;
            firsts[hills] = 10 * tens + ones;
            broads[hills] = broad;
            return true;
        }

        private int figureHere(Sheet text) {
            int figure = text.get(place) - '0';
            return text.has(place) && figure >= 0 && figure <= 9 ? figure : -1;
        }

        private int kindHere(Sheet text) {
            for (int kind = 0; kind < KINDS; kind++) {
                if (text.has(place) && text.get(place) == LETTERS[kind]) {
                    return kind;
                }
            }
            return -1;
        }
    }

    /** A HILL; it can also be looked at as if it were of another KIND. */
    private static final class Hill {
        private int kind = KIND_HILL;
        private int first = 0;
        private int broad = 1;

        /** How many TENTS there are in its view. */
        private int reachAs(int as, int day) {
            int wide = broad;
            if (as == KIND_HIGH) {
                wide = 2 * broad;
            } else if (as == KIND_FOGGY && day % 2 != 0) {
                wide = broad / 2;
            }
            return wide < TENTS - first ? wide : TENTS - first;
        }

        int seenAs(int as, int[] givens, int day) {
            int end = first + reachAs(as, day);
            int step = isOfKind(as, KIND_BARE) ? 2 : 1;
            boolean isWooded = isOfKind(as, KIND_WOODED);
            int set = 0;
            for (int i = first; i < end; i += step) {
                if (!isWooded || givens[i] >= 0) {
                    set |= 1 << i;
                }
            }
            return set;
        }

        int sumAs(int as, int[] givens, int day) {
            return sumOf(as, seenAs(as, givens, day), givens);
        }

        static int sumOf(int as, int seen, int[] givens) {
            int sum = 0;
            for (int i = 0; i < TENTS; i++) {
                if ((seen >> i & 1) != 0) {
                    sum += as == KIND_FAR ? givens[i] / 2 : givens[i];
                }
            }
            return sum;
        }

        /** What a HILL tells as one of a KIND that it is, too. */
        int markAs(int as, int[] givens, int day) {
            switch (as) {
                case KIND_BARE:
                case KIND_WOODED:
                    return reachAs(kind, day) - Integer.bitCount(seenAs(kind, givens, day));
                case KIND_FOGGY:
                    return reachAs(KIND_FOGGY, 1);
                case KIND_HIGH:
                    return 2 * broad - reachAs(KIND_HIGH, day);
                default:
                    return sumAs(KIND_WOODED, givens, day) - sumAs(KIND_FAR, givens, day);
            }
        }
    }

    /** The HILLS about a CAMP: the same for all CAMPS that are kept. */
    private static final class Land {
        private final Hill[] hills = new Hill[HILLS];
        private int size = 0;

        Land() {
            for (int h = 0; h < HILLS; h++) {
                hills[h] = new Hill();
            }
        }

        void take(Reader reader) {
            size = reader.hills;
            for (int h = 0; h < size; h++) {
                hills[h].kind = reader.kinds[h];
                hills[h].first = reader.firsts[h];
                hills[h].broad = reader.broads[h];
            }
        }

        int howManyOf(int kind) {
            int many = 0;
            for (int h = 0; h < size; h++) {
                if (isOfKind(hills[h].kind, kind)) {
                    many++;
                }
            }
            return many;
        }
    }

    /** TENTS with all that has been done, so that DEEDS can be done again from the first day on. */
    private static final class Camp {
        private final Land land;
        private final int[] pitched = new int[TENTS];
        private final int[] givens = new int[TENTS];
        private final int[] deeds = new int[DEEDS];
        private int done = 0;
        private int day = 0;
        private int gold = 0;
        private int blessed = 0;
        private int cursed = 0;

        Camp(Land land) {
            this.land = land;
        }

        void pitch(int[] newGivens) {
            System.arraycopy(newGivens, 0, pitched, 0, TENTS);
            startAgain();
        }

        private void startAgain() {
            System.arraycopy(pitched, 0, givens, 0, TENTS);
            done = 0;
            day = 0;
            gold = 0;
            blessed = 0;
            cursed = 0;
        }

        void take(Camp other) {
            System.arraycopy(other.pitched, 0, pitched, 0, TENTS);
            System.arraycopy(other.givens, 0, givens, 0, TENTS);
            System.arraycopy(other.deeds, 0, deeds, 0, DEEDS);
            done = other.done;
            day = other.day;
            gold = other.gold;
            blessed = other.blessed;
            cursed = other.cursed;
        }

        int seenFrom(int h) {
            Hill hill = land.hills[h];
            return hill.seenAs(hill.kind, givens, day);
        }

        int sumFrom(int h) {
            Hill hill = land.hills[h];
            return hill.sumAs(hill.kind, givens, day);
        }

        int wordFrom(int h) {
            Hill hill = land.hills[h];
            return wordOf(hill.sumAs(hill.kind, givens, day));
        }

        int seenFromAny(int hillSet) {
            int seen = 0;
            for (int h = 0; h < land.size; h++) {
                if ((hillSet >> h & 1) != 0) {
                    seen |= seenFrom(h);
                }
            }
            return seen;
        }

        int hillsThatSee(int i) {
            int set = 0;
            for (int h = 0; h < land.size; h++) {
                set |= (seenFrom(h) >> i & 1) << h;
            }
            return set;
        }

        int hillsThatBless() {
            int set = 0;
            for (int h = 0; h < land.size; h++) {
                if (wordFrom(h) == BLESSING) {
                    set |= 1 << h;
                }
            }
            return set;
        }

        boolean isBlessedByAll() {
            for (int h = 0; h < land.size; h++) {
                if (wordFrom(h) != BLESSING) {
                    return false;
                }
            }
            return true;
        }

        int fateOf(int i) {
            return (blessed >> i & 1) != 0 ? BLESSING : (cursed >> i & 1) != 0 ? CURSE : SILENCE;
        }

        void sayFrom(int h) {
            Hill hill = land.hills[h];
            int seen = hill.seenAs(hill.kind, givens, day);
            int word = wordOf(Hill.sumOf(hill.kind, seen, givens));
            int bound = seen & ~(blessed | cursed);
            if (word == BLESSING) {
                blessed |= bound;
            } else if (word == CURSE) {
                cursed |= bound;
            }
            gold += feeOf(word, FEE_SILENCE, FEE_BLESSING, FEE_CURSE);
        }

        void swap(int i, int j) {
            int given = givens[i];
            givens[i] = givens[j];
            givens[j] = given;
            blessed = swapBits(blessed, i, j);
            cursed = swapBits(cursed, i, j);
        }

        private static int swapBits(int set, int i, int j) {
            boolean differ = ((set >> i ^ set >> j) & 1) != 0;
            return differ ? set ^ (1 << i | 1 << j) : set;
        }

        /** Each TENT goes one place on, the last one to the first. */
        void goRound() {
            for (int i = TENTS - 1; i > 0; i--) {
                swap(i, i - 1);
            }
        }

        void doAndNote(int deed) {
            if (done < DEEDS) {
                deeds[done] = deed;
                done++;
                perform(deed);
            }
        }

        void goBackTo(int n) {
            startAgain();
            for (int d = 0; d < n && d < DEEDS; d++) {
                perform(deeds[d]);
                done++;
            }
        }

        private void perform(int deed) {
            if (deed >= DEED_CHANGE) {
                swap((deed - DEED_CHANGE) / TENTS, (deed - DEED_CHANGE) % TENTS);
            } else if (deed >= DEED_SPEAK) {
                sayFrom(deed - DEED_SPEAK);
            } else {
                day++;
            }
        }
    }

    /** Goes through all orders of HILLS, by numbers: the first ones stay where others do as well. */
    private static final class OrderSearch {
        private final int[] seen = new int[HILLS];
        private final int[] words = new int[HILLS];
        private final int[] path = new int[HILLS];
        private final int[] mostPath = new int[HILLS];
        private final int[] leastPath = new int[HILLS];
        private int size = 0;
        private int used = 0;
        private int wanted = 0;
        private int most = -1;
        private int least = TENTS + 1;
        private int found = 0;
        private int common = 0;

        void goThrough(Camp camp, int wantedCursed) {
            size = camp.land.size;
            for (int h = 0; h < size; h++) {
                seen[h] = camp.seenFrom(h);
                words[h] = camp.wordFrom(h);
            }
            used = 0;
            wanted = wantedCursed;
            most = -1;
            least = TENTS + 1;
            found = 0;
            common = (1 << TENTS) - 1;
            goOn(0, camp.blessed, camp.cursed);
        }

        /** So many HILLS of the order are chosen, which left these TENTS bound. */
        private void goOn(int chosen, int blessed, int cursed) {
            if (chosen >= size) {
                weigh(cursed);
                return;
            }
            for (int h = 0; h < size; h++) {
                if ((used >> h & 1) == 0) {
                    choose(h, chosen, blessed, cursed);
                }
            }
        }

        private void choose(int h, int chosen, int blessed, int cursed) {
            int bound = seen[h] & ~(blessed | cursed);
            path[chosen] = h;
            used |= 1 << h;
            goOn(chosen + 1, words[h] == BLESSING ? blessed | bound : blessed,
                    words[h] == CURSE ? cursed | bound : cursed);
            used &= ~(1 << h);
        }

        private void weigh(int cursed) {
            int many = Integer.bitCount(cursed);
            if (many > most) {
                most = many;
                System.arraycopy(path, 0, mostPath, 0, HILLS);
            }
            if (many < least) {
                least = many;
                System.arraycopy(path, 0, leastPath, 0, HILLS);
            }
            if (many == wanted) {
                found++;
                common &= cursed;
            }
        }
    }
}
