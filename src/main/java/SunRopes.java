import java.util.Arrays;

/**
 * Ropes on the sun: capes hold it, valleys gain by where it is, and each minute held is owed.
 * Every row that a call needs is made in a constructor and used again, so that calls make nothing.
 */
public final class SunRopes {
    public static final int BAD = -1, FULL = -2, FINDING = -3, STATE = -4, SPENT = -6, NONE = -9;

    private static final int NOTHING = 1, BEYOND = 2, UNLIKE = 3, NOUGHT = 4, SIZE = 5;
    private static final int ROWS = 6, ROW_PLACES = 40, TEXTS = 4, TEXT_BYTES = 60, KEPT_YEARS = 3;
    private static final int CAPES = 5, VALLEYS = 4, SETS = 32;
    private static final int DEEDS = 60, PLAN_HOURS = 12, SEARCH_HOURS = 3, LOT_HOURS = 20, COUNTS = 9;
    private static final int MISSING = -1, FITS_WELL = 0;

    private static final int CAPE = 0, HAIR = 1, STRONG = 2, NOON = 3, LAZY = 4, GIANT = 5, KINDS = 6;
    private static final int[] LETTERS = {99, 104, 115, 110, 108, 103};
    private static final int[] KIND_ABOVE = {CAPE, CAPE, CAPE, CAPE, NOON, STRONG};

    private static final int BLANK = 32, LIGHT_LETTER = 118, DARK_LETTER = 100;
    private static final int CAPE_SIGNS = 3, VALLEY_SIGNS = 4;

    private static final int HOUR_MINUTES = 6, NOON_MINUTE = 24, DOWN_MINUTE = 48, LURCH_MINUTES = 2;
    private static final int DAYS_PAID = 7, LAST_MINUTE = 99, MOST = 9;
    /** Beyond every minute that hours can bring the sun to. */
    private static final int FAR_MINUTE = 1000;

    /** Where the facts of a day stand in its one array: one array is kept and undone at a stroke. */
    private static final int MINUTE = 0, OWED = 1, ROPE = 2, CREW = 7, GAIN = 12, FACTS = 16;

    private static final long LOT_FACTOR = 48271L, LOT_MODULUS = 2147483647L;
    private static final int LOT_CUT = 32;

    private final Row[] rows = new Row[ROWS];
    private final Text[] texts = new Text[TEXTS];
    private final Reader reader = new Reader();
    private final Year year = new Year();
    private final Day now = new Day();
    private final Diary diary = new Diary();
    private final Diary[] kept = new Diary[KEPT_YEARS];
    private final Plans plans = new Plans();
    private final Search search = new Search();
    private final Council council = new Council();
    private final int[] order = new int[CAPES];
    private final int[] findingCounts = new int[SIZE + 1];
    private int latestFinding = 0;
    private int told = 0;
    private long chanceUpper = 0;
    private long chanceLower = 1;

    public SunRopes() {
        for (int r = 0; r < ROWS; r++) {
            rows[r] = new Row();
        }
        for (int t = 0; t < TEXTS; t++) {
            texts[t] = new Text();
        }
        for (int k = 0; k < KEPT_YEARS; k++) {
            kept[k] = new Diary();
            kept[k].size = MISSING;
        }
    }

    // ---- 1 rows, texts, years

    public int row(int r, int n) {
        if (!isRow(r) || n > ROW_PLACES) {
            return BAD;
        }
        if (n < 0) {
            return found(SIZE);
        }
        rows[r].begin(n);
        return n;
    }

    public int lay(int r, int i, int v) {
        int refusal = placeRefusal(r, i);
        if (refusal != FITS_WELL) {
            return refusal;
        }
        told = rows[r].places[i];
        rows[r].places[i] = v;
        return 1;
    }

    public int at(int r, int i) {
        int refusal = placeRefusal(r, i);
        if (refusal != FITS_WELL) {
            return refusal;
        }
        told = rows[r].places[i];
        return 1;
    }

    public int tear(int r) {
        if (!isRow(r)) {
            return BAD;
        }
        if (!rows[r].isThere()) {
            return found(NOTHING);
        }
        rows[r].size = MISSING;
        return 1;
    }

    public int copy(int r, int i, int to, int j, int n) {
        if (!isRow(r) || !isRow(to)) {
            return BAD;
        }
        if (n < 0) {
            return found(SIZE);
        }
        if (!rows[r].isThere() || !rows[to].isThere()) {
            return found(NOTHING);
        }
        if (!rows[r].hasMany(i, n) || !rows[to].hasMany(j, n)) {
            return found(BEYOND);
        }
        System.arraycopy(rows[r].places, i, rows[to].places, j, n);
        return 1;
    }

    public int mean(int r) {
        if (!isRow(r)) {
            return BAD;
        }
        if (!rows[r].isThere()) {
            return found(NOTHING);
        }
        int size = rows[r].size;
        if (size == 0) {
            return found(NOUGHT);
        }
        told = (int) (rows[r].sum() / size);
        return 1;
    }

    public int text(int t, int n) {
        if (!isText(t) || n > TEXT_BYTES) {
            return BAD;
        }
        if (n < 0) {
            return found(SIZE);
        }
        texts[t].begin(n);
        return n;
    }

    public int put(int t, int i, int v) {
        if (!isText(t)) {
            return BAD;
        }
        if (!texts[t].isThere()) {
            return found(NOTHING);
        }
        if (i < 0 || i >= texts[t].size) {
            return found(BEYOND);
        }
        int was = texts[t].bytes[i];
        texts[t].bytes[i] = (byte) v;
        return was + 1000;
    }

    public int fault(int t) {
        if (!isText(t)) {
            return BAD;
        }
        if (!texts[t].isThere()) {
            return found(NOTHING);
        }
        return reader.faultIn(texts[t]);
    }

    public int year(int t) {
        if (!isText(t)) {
            return BAD;
        }
        if (!texts[t].isThere()) {
            return found(NOTHING);
        }
        if (reader.faultIn(texts[t]) != NONE) {
            return STATE;
        }
        year.begin(reader);
        now.begin(reader);
        diary.size = 0;
        for (int k = 0; k < KEPT_YEARS; k++) {
            kept[k].size = MISSING;
        }
        return year.capes;
    }

    public int cape(int i, int what) {
        if (!year.hasCape(i) || what < 0 || what > 3) {
            return BAD;
        }
        told = factOfCape(i, what);
        return 1;
    }

    public int valley(int v, int what) {
        if (!year.hasValley(v) || what < 0 || what > 4) {
            return BAD;
        }
        told = factOfValley(v, what);
        return 1;
    }

    public int mark(int i, int kind) {
        if (!year.hasCape(i) || kind <= CAPE || kind >= KINDS) {
            return BAD;
        }
        if ((year.ofKind[kind] >> i & 1) == 0) {
            return found(UNLIKE);
        }
        return markOf(i, kind);
    }

    public int price(int v, int worth) {
        if (!year.hasValley(v) || worth < 0 || worth > MOST) {
            return BAD;
        }
        int was = year.worths[v];
        year.worths[v] = worth;
        return was;
    }

    // ---- 2 hours

    public int hold(int set) {
        if (!year.hasSet(set)) {
            return BAD;
        }
        if (year.capes == 0) {
            return STATE;
        }
        if (diary.size >= DEEDS) {
            return FULL;
        }
        int went = trueHour(set);
        told = now.pulled;
        return went;
    }

    public int rope(int i, int v) {
        if (!year.hasCape(i) || v < 1 || v > MOST) {
            return BAD;
        }
        if (diary.size >= DEEDS) {
            return FULL;
        }
        diary.write(now);
        int left = now.facts[ROPE + i];
        now.facts[ROPE + i] = v;
        return left;
    }

    public int rise() {
        if (year.capes == 0 || !now.isDown()) {
            return STATE;
        }
        if (diary.size >= DEEDS) {
            return FULL;
        }
        diary.write(now);
        int paid = HOUR_MINUTES * Math.min(now.facts[OWED] / HOUR_MINUTES, DAYS_PAID);
        now.facts[OWED] -= paid;
        now.facts[MINUTE] = paid;
        return paid;
    }

    public int undo(int n) {
        if (n < 0 || n > diary.size) {
            return BAD;
        }
        int undone = diary.size - n;
        if (undone > 0) {
            diary.goBack(n, now);
        }
        return undone;
    }

    public int sun() {
        if (year.capes == 0) {
            return STATE;
        }
        told = now.facts[OWED];
        return now.facts[MINUTE];
    }

    public int gained() {
        int all = 0;
        int first = NONE;
        int most = -1;
        for (int v = 0; v < year.valleys; v++) {
            int gain = now.facts[GAIN + v];
            all += gain;
            if (gain > most) {
                most = gain;
                first = v;
            }
        }
        told = first;
        return all;
    }

    public int keep(int k) {
        if (!isKeptPlace(k)) {
            return BAD;
        }
        if (year.capes == 0) {
            return STATE;
        }
        diary.writeLast(now);
        kept[k].take(diary);
        System.arraycopy(year.worths, 0, kept[k].worths, 0, VALLEYS);
        return diary.size;
    }

    public int on(int k) {
        if (!isKeptPlace(k)) {
            return BAD;
        }
        if (kept[k].size == MISSING) {
            return found(NOTHING);
        }
        diary.take(kept[k]);
        diary.goBack(diary.size, now);
        System.arraycopy(kept[k].worths, 0, year.worths, 0, VALLEYS);
        return diary.size;
    }

    // ---- 3 plans (aside)

    public int run(int r) {
        int refusal = planRefusal(r);
        if (refusal != FITS_WELL) {
            return refusal;
        }
        int gain = plans.gainOf(year, now, rows[r]);
        told = plans.tells;
        return gain;
    }

    public int burns(int r) {
        int refusal = planRefusal(r);
        if (refusal != FITS_WELL) {
            return refusal;
        }
        int hour = plans.firstLurch(year, now, rows[r], 0);
        if (hour != NONE) {
            told = plans.tells;
        }
        return hour;
    }

    public int best(int n, int r) {
        if (n < 0 || n > SEARCH_HOURS || !isRow(r)) {
            return BAD;
        }
        if (year.capes == 0) {
            return STATE;
        }
        int gain = search.mostGain(year, now, n);
        rows[r].take(search.first, n);
        return gain;
    }

    public int slowest(int n, int r) {
        if (n < 0 || n > SEARCH_HOURS || !isRow(r)) {
            return BAD;
        }
        if (year.capes == 0) {
            return STATE;
        }
        int minute = search.leastMinute(year, now, n);
        rows[r].take(search.first, n);
        return minute;
    }

    public int down(int set) {
        if (!year.hasSet(set)) {
            return BAD;
        }
        return year.capes == 0 ? STATE : plans.hoursTillDown(year, now, set);
    }

    public int longest() {
        if (year.capes == 0) {
            return STATE;
        }
        int first = 0;
        int most = -1;
        for (int set = 0; set <= year.allCapes(); set++) {
            int hours = plans.hoursTillDown(year, now, set);
            if (hours > most) {
                most = hours;
                first = set;
            }
        }
        told = most;
        return first;
    }

    public int ropes(int r) {
        int refusal = planRefusal(r);
        if (refusal != FITS_WELL) {
            return refusal;
        }
        int fewest = plans.fewestRopes(year, now, rows[r]);
        if (fewest != NONE) {
            told = plans.tells;
        }
        return fewest;
    }

    // ---- 4 lurches, votes

    public int loose(int set, int r) {
        if (!year.hasSet(set) || !isRow(r)) {
            return BAD;
        }
        // The least jumps come with the weak ones first: only then are the strong ones multiplied by few.
        int strong = set & year.ofKind[STRONG];
        int n = orderFrom(0, set & ~strong);
        n = orderFrom(n, strong);
        int jumps = 0;
        for (int k = 0; k < n; k++) {
            jumps += year.pullOf(1 << order[k]) * (n - 1 - k);
        }
        rows[r].take(order, n);
        return jumps;
    }

    public int votes(int set, int other) {
        if (!year.hasSet(set) || !year.hasSet(other)) {
            return BAD;
        }
        if (year.capes == 0) {
            return STATE;
        }
        council.weigh(year, now);
        told = council.votersFor(year, set, other);
        return Integer.bitCount(told);
    }

    public int choice() {
        if (year.capes == 0) {
            return STATE;
        }
        council.weigh(year, now);
        return council.firstUnbeaten(year);
    }

    public int parts(int r) {
        int refusal = rowRefusal(r);
        if (refusal != FITS_WELL) {
            return refusal;
        }
        if (rows[r].size != year.valleys) {
            return found(SIZE);
        }
        council.weigh(year, now);
        told = council.firstLeaving(year, rows[r]);
        return told == NONE ? 1 : 0;
    }

    // ---- 5 what was

    public int fits(int set, int r, int to) {
        if (!year.hasSet(set) || !isRow(to)) {
            return BAD;
        }
        int refusal = minutesRefusal(r);
        if (refusal != FITS_WELL) {
            return refusal;
        }
        int hours = rows[r].size;
        int ways = search.waysThatFit(year, now, set, rows[r]);
        if (ways > 0) {
            rows[to].take(search.first, hours);
        }
        return ways;
    }

    public int slipped(int set, int r) {
        if (!year.hasSet(set)) {
            return BAD;
        }
        int refusal = minutesRefusal(r);
        if (refusal != FITS_WELL) {
            return refusal;
        }
        return search.waysThatFit(year, now, set, rows[r]) > 0 ? search.slips : 0;
    }

    // ---- 6 chances, lots

    public int odds(int set, int n, int m) {
        if (!year.hasSet(set) || n < 0 || n > SEARCH_HOURS || m < 0 || m > LAST_MINUTE) {
            return BAD;
        }
        if (year.capes == 0) {
            return STATE;
        }
        tellChance(search.waysTo(year, now, set, n, m), Integer.bitCount(set) * n);
        return 1;
    }

    public int lots(int n, int seed) {
        if (n < 1 || n > LOT_HOURS || seed < 1 || seed >= LOT_MODULUS) {
            return BAD;
        }
        if (year.capes == 0) {
            return STATE;
        }
        if (diary.size + n > DEEDS) {
            return FULL;
        }
        long lot = seed;
        int went = 0;
        for (int k = 0; k < n; k++) {
            lot = LOT_FACTOR * lot % LOT_MODULUS;
            // There are 2, 4, .. 32 sets: a mask is the modulo.
            went += trueHour((int) (lot / LOT_CUT) & year.allCapes());
        }
        return went;
    }

    // ---- 7 what is told

    public int asked() {
        return told;
    }

    public long upper() {
        return chanceUpper;
    }

    public long lower() {
        return chanceLower;
    }

    public int count(int what) {
        return what < 0 || what >= COUNTS ? BAD : countOf(what);
    }

    public int finding() {
        return latestFinding;
    }

    public int findings(int f) {
        return f < NOTHING || f > SIZE ? BAD : findingCounts[f];
    }

    public long digest() {
        long h = 17;
        for (int what = 0; what < COUNTS; what++) {
            h = 31 * h + countOf(what);
        }
        h = 31 * h + now.facts[MINUTE];
        h = 31 * h + now.facts[OWED];
        for (int i = 0; i < year.capes; i++) {
            for (int what = 0; what <= 3; what++) {
                h = 31 * h + factOfCape(i, what);
            }
        }
        for (int v = 0; v < year.valleys; v++) {
            for (int what = 0; what <= 4; what++) {
                h = 31 * h + factOfValley(v, what);
            }
        }
        for (int k = 0; k < KEPT_YEARS; k++) {
            h = 31 * h + kept[k].size;
        }
        for (int r = 0; r < ROWS; r++) {
            h = rows[r].digestFrom(h);
        }
        for (int t = 0; t < TEXTS; t++) {
            h = texts[t].digestFrom(h);
        }
        return h;
    }

    // ---- what the calls share

    private static boolean isRow(int r) {
        return r >= 0 && r < ROWS;
    }

    private static boolean isText(int t) {
        return t >= 0 && t < TEXTS;
    }

    private static boolean isKeptPlace(int k) {
        return k >= 0 && k < KEPT_YEARS;
    }

    private int found(int finding) {
        latestFinding = finding;
        findingCounts[finding]++;
        return FINDING;
    }

    private int placeRefusal(int r, int i) {
        if (!isRow(r)) {
            return BAD;
        }
        if (!rows[r].isThere()) {
            return found(NOTHING);
        }
        if (i < 0 || i >= rows[r].size) {
            return found(BEYOND);
        }
        return FITS_WELL;
    }

    private int rowRefusal(int r) {
        if (!isRow(r)) {
            return BAD;
        }
        if (year.capes == 0) {
            return STATE;
        }
        if (!rows[r].isThere()) {
            return found(NOTHING);
        }
        return FITS_WELL;
    }

    private int planRefusal(int r) {
        int refusal = rowRefusal(r);
        if (refusal != FITS_WELL) {
            return refusal;
        }
        Row plan = rows[r];
        if (plan.size > PLAN_HOURS) {
            return found(SIZE);
        }
        for (int hour = 0; hour < plan.size; hour++) {
            if (!year.hasSet(plan.places[hour])) {
                return found(UNLIKE);
            }
        }
        return FITS_WELL;
    }

    private int minutesRefusal(int r) {
        int refusal = rowRefusal(r);
        if (refusal != FITS_WELL) {
            return refusal;
        }
        return rows[r].size > SEARCH_HOURS ? found(SIZE) : FITS_WELL;
    }

    private int trueHour(int set) {
        diary.write(now);
        now.collect(year);
        return now.goOn(year, set);
    }

    private int factOfCape(int i, int what) {
        switch (what) {
            case 0:
                return year.kinds[i];
            case 1:
                return now.facts[ROPE + i];
            case 2:
                return now.facts[CREW + i];
            default:
                now.look(year);
                return year.pullOf(now.able & 1 << i);
        }
    }

    private int factOfValley(int v, int what) {
        switch (what) {
            case 0:
                return year.lights[v];
            case 1:
                return year.from[v];
            case 2:
                return year.to[v];
            case 3:
                return year.worths[v];
            default:
                return now.facts[GAIN + v];
        }
    }

    private int markOf(int i, int kind) {
        switch (kind) {
            case HAIR:
                return !now.isDown() && now.isAtEvenPlace() ? 1 : 0;
            case STRONG:
                return year.capes - Integer.bitCount(year.ofKind[STRONG]);
            case NOON:
                return Math.max(0, NOON_MINUTE - now.facts[MINUTE]);
            case LAZY:
                return (MOST - now.facts[CREW + i] + 1) / 2;
            default:
                return now.facts[CREW + i] >= 1 ? now.facts[ROPE + i] : 0;
        }
    }

    private int countOf(int what) {
        switch (what) {
            case 0:
                return year.capes;
            case 1:
                return year.valleys;
            case 2:
                return diary.size;
            case 3:
                now.look(year);
                return Integer.bitCount(now.able);
            case 4:
                return now.isDown() ? 1 : 0;
            case 5:
                return Integer.bitCount(year.ofKind[STRONG]);
            case 6:
                return rowsThere();
            case 7:
                return textsThere();
            default:
                return yearsKept();
        }
    }

    private int rowsThere() {
        int there = 0;
        for (int r = 0; r < ROWS; r++) {
            there += rows[r].isThere() ? 1 : 0;
        }
        return there;
    }

    private int textsThere() {
        int there = 0;
        for (int t = 0; t < TEXTS; t++) {
            there += texts[t].isThere() ? 1 : 0;
        }
        return there;
    }

    private int yearsKept() {
        int there = 0;
        for (int k = 0; k < KEPT_YEARS; k++) {
            there += kept[k].size == MISSING ? 0 : 1;
        }
        return there;
    }

    /** Lays the capes of a set into the order from a place on; answers the place behind them. */
    private int orderFrom(int place, int set) {
        int next = place;
        for (int i = 0; i < year.capes; i++) {
            if ((set >> i & 1) != 0 && next < CAPES) {
                order[next] = i;
                next++;
            }
        }
        return next;
    }

    /** The lower number is a power of two: halving both is all that lowest terms need, of 0, too. */
    private void tellChance(int ways, int halvings) {
        chanceUpper = ways;
        chanceLower = 1L << halvings;
        for (int k = 0; k < halvings && chanceLower > 1 && (chanceUpper & 1) == 0; k++) {
            chanceUpper /= 2;
            chanceLower /= 2;
        }
    }

    private static final class Row {
        final int[] places = new int[ROW_PLACES];
        int size = MISSING;

        boolean isThere() {
            return size >= 0;
        }

        boolean hasMany(int i, int n) {
            return i >= 0 && n >= 0 && i <= size - n;
        }

        void begin(int n) {
            Arrays.fill(places, 0);
            size = n;
        }

        void take(int[] others, int n) {
            System.arraycopy(others, 0, places, 0, n);
            size = n;
        }

        long sum() {
            long sum = 0;
            for (int i = 0; i < size; i++) {
                sum += places[i];
            }
            return sum;
        }

        long digestFrom(long start) {
            long h = 31 * start + size;
            for (int i = 0; i < size; i++) {
                h = 31 * h + places[i];
            }
            return h;
        }
    }

    private static final class Text {
        final byte[] bytes = new byte[TEXT_BYTES];
        int size = MISSING;

        boolean isThere() {
            return size >= 0;
        }

        void begin(int n) {
            Arrays.fill(bytes, (byte) BLANK);
            size = n;
        }

        long digestFrom(long start) {
            long h = 31 * start + size;
            for (int i = 0; i < size; i++) {
                h = 31 * h + bytes[i];
            }
            return h;
        }
    }

    /** Reads a year out of a text into rows of its own, so that a faulty text leaves the year alone. */
    private static final class Reader {
        final int[] ofCapes = new int[CAPES * CAPE_SIGNS];
        final int[] ofValleys = new int[VALLEYS * VALLEY_SIGNS];
        int capes = 0;
        int valleys = 0;

        int faultIn(Text text) {
            capes = 0;
            valleys = 0;
            int place = 0;
            while (place < text.size) {
                int sign = text.bytes[place];
                if (sign == BLANK) {
                    place++;
                    continue;
                }
                boolean isCape = kindOf(sign) != NONE;
                int fault = isCape ? faultInCape(text, place) : faultInValley(text, place);
                if (fault != NONE) {
                    return fault;
                }
                place += isCape ? CAPE_SIGNS : VALLEY_SIGNS;
            }
            return capes == 0 ? text.size : NONE;
        }

        private int faultInCape(Text text, int place) {
            if (capes >= CAPES || valleys > 0) {
                return place;
            }
            int start = capes * CAPE_SIGNS;
            ofCapes[start] = kindOf(text.bytes[place]);
            for (int k = 1; k < CAPE_SIGNS; k++) {
                int figure = figureAt(text, place + k);
                if (figure == NONE) {
                    return place + k;
                }
                ofCapes[start + k] = figure;
            }
            capes++;
            return NONE;
        }

        private int faultInValley(Text text, int place) {
            int sign = text.bytes[place];
            if (sign != LIGHT_LETTER && sign != DARK_LETTER) {
                return place;
            }
            if (capes == 0 || valleys >= VALLEYS) {
                return place;
            }
            int start = valleys * VALLEY_SIGNS;
            ofValleys[start] = sign == LIGHT_LETTER ? 1 : 0;
            for (int k = 1; k < VALLEY_SIGNS; k++) {
                int figure = figureAt(text, place + k);
                if (figure < leastFigure(start, k) || figure > (k == 3 ? MOST : 7)) {
                    return place + k;
                }
                ofValleys[start + k] = figure;
            }
            valleys++;
            return NONE;
        }

        private int leastFigure(int start, int k) {
            if (k == 1) {
                return 0;
            }
            return k == 2 ? ofValleys[start + 1] : 1;
        }

        private static int figureAt(Text text, int place) {
            if (place >= text.size) {
                return NONE;
            }
            int figure = text.bytes[place] - 48;
            return figure < 0 || figure > 9 ? NONE : figure;
        }

        private static int kindOf(int sign) {
            for (int kind = 0; kind < KINDS; kind++) {
                if (LETTERS[kind] == sign) {
                    return kind;
                }
            }
            return NONE;
        }
    }

    /** What a year's text fixes (worths aside, which may be priced anew). Sets of capes are bits. */
    private static final class Year {
        final int[] kinds = new int[CAPES];
        final int[] ofKind = new int[KINDS];
        final int[] lights = new int[VALLEYS];
        final int[] from = new int[VALLEYS];
        final int[] to = new int[VALLEYS];
        final int[] worths = new int[VALLEYS];
        int capes = 0;
        int valleys = 0;

        void begin(Reader reader) {
            capes = reader.capes;
            valleys = reader.valleys;
            Arrays.fill(ofKind, 0);
            for (int i = 0; i < capes; i++) {
                int kind = reader.ofCapes[i * CAPE_SIGNS];
                kinds[i] = kind;
                ofKind[CAPE] |= 1 << i;
                ofKind[KIND_ABOVE[kind]] |= 1 << i;
                ofKind[kind] |= 1 << i;
            }
            for (int v = 0; v < valleys; v++) {
                int start = v * VALLEY_SIGNS;
                lights[v] = reader.ofValleys[start];
                from[v] = reader.ofValleys[start + 1];
                to[v] = reader.ofValleys[start + 2];
                worths[v] = reader.ofValleys[start + 3];
            }
        }

        boolean hasCape(int i) {
            return i >= 0 && i < capes;
        }

        boolean hasValley(int v) {
            return v >= 0 && v < valleys;
        }

        int allCapes() {
            return (1 << capes) - 1;
        }

        boolean hasSet(int set) {
            return set >= 0 && set <= allCapes();
        }

        int pullOf(int set) {
            return Integer.bitCount(set) + Integer.bitCount(set & ofKind[STRONG]);
        }

        /** What a valley gains in an hour, the sun being at this minute ahead of it. */
        int gainOf(int v, int minute) {
            int place = minute / HOUR_MINUTES;
            boolean lit = minute < DOWN_MINUTE && place >= from[v] && place <= to[v];
            return lit == (lights[v] == 1) ? worths[v] : 0;
        }

        int gainOfAll(int minute) {
            int gain = 0;
            for (int v = 0; v < valleys; v++) {
                gain += gainOf(v, minute);
            }
            return gain;
        }
    }

    /** The sun, the ropes, the crews, the gains as they are at one time. */
    private static final class Day {
        final int[] facts = new int[FACTS];
        int able = 0;
        int frail = 0;
        int pulled = 0;
        int lurched = 0;

        void begin(Reader reader) {
            Arrays.fill(facts, 0);
            for (int i = 0; i < reader.capes; i++) {
                facts[ROPE + i] = reader.ofCapes[i * CAPE_SIGNS + 1];
                facts[CREW + i] = reader.ofCapes[i * CAPE_SIGNS + 2];
            }
        }

        void take(Day other) {
            System.arraycopy(other.facts, 0, facts, 0, FACTS);
        }

        boolean isDown() {
            return facts[MINUTE] >= DOWN_MINUTE;
        }

        boolean isAtEvenPlace() {
            return facts[MINUTE] / HOUR_MINUTES % 2 == 0;
        }

        /** Finds which capes can pull (none when it is down) and which would burn their rope by it. */
        void look(Year year) {
            able = 0;
            frail = 0;
            if (isDown()) {
                return;
            }
            for (int i = 0; i < year.capes; i++) {
                int left = facts[ROPE + i];
                if (left >= 1 && facts[CREW + i] >= 1) {
                    able |= 1 << i;
                }
                if (left == 1) {
                    frail |= 1 << i;
                }
            }
            if (facts[MINUTE] >= NOON_MINUTE) {
                able &= ~year.ofKind[NOON];
            }
            if (!isAtEvenPlace()) {
                frail &= ~year.ofKind[HAIR];
            }
        }

        /** Where the sun would be behind an hour; behind a look(). */
        int minuteBehind(Year year, int set) {
            if (isDown()) {
                return facts[MINUTE];
            }
            int pulling = set & able;
            int lurches = Integer.bitCount(pulling & frail);
            return facts[MINUTE] + Math.max(1, HOUR_MINUTES - year.pullOf(pulling)) + LURCH_MINUTES * lurches;
        }

        void collect(Year year) {
            for (int v = 0; v < year.valleys; v++) {
                facts[GAIN + v] += year.gainOf(v, facts[MINUTE]);
            }
        }

        /** An hour without its gains, which searches count by the minute alone: how far the sun went. */
        int goOn(Year year, int set) {
            look(year);
            int went = minuteBehind(year, set) - facts[MINUTE];
            pulled = set & able;
            lurched = pulled & frail;
            // The sun goes a minute at least, so that no hour owes all of its minutes.
            facts[OWED] += Math.min(year.pullOf(pulled), HOUR_MINUTES - 1);
            wearAndRest(year);
            facts[MINUTE] += went;
            return went;
        }

        private void wearAndRest(Year year) {
            int worn = isAtEvenPlace() ? pulled : pulled & ~year.ofKind[HAIR];
            int tired = pulled & ~year.ofKind[GIANT];
            for (int i = 0; i < year.capes; i++) {
                facts[ROPE + i] -= worn >> i & 1;
                facts[CREW + i] -= tired >> i & 1;
                if ((pulled >> i & 1) == 0) {
                    int rest = 1 + (year.ofKind[LAZY] >> i & 1);
                    facts[CREW + i] = Math.min(MOST, facts[CREW + i] + rest);
                }
            }
        }
    }

    /** The days ahead of each deed, so that deeds are undone by going back to one of them. */
    private static final class Diary {
        private final int[] past = new int[(DEEDS + 1) * FACTS];
        final int[] worths = new int[VALLEYS];
        int size = 0;

        /** The day as it is behind all deeds; there is one place more than deeds for it. */
        void writeLast(Day day) {
            if (size >= 0 && size <= DEEDS) {
                System.arraycopy(day.facts, 0, past, size * FACTS, FACTS);
            }
        }

        void write(Day day) {
            writeLast(day);
            size++;
        }

        void goBack(int n, Day day) {
            if (n >= 0 && n <= DEEDS) {
                System.arraycopy(past, n * FACTS, day.facts, 0, FACTS);
                size = n;
            }
        }

        void take(Diary other) {
            if (other.size >= 0 && other.size <= DEEDS) {
                System.arraycopy(other.past, 0, past, 0, (other.size + 1) * FACTS);
                size = other.size;
            }
        }
    }

    /** What plans and lasting sets would do, on a day of its own. */
    private static final class Plans {
        private final Day day = new Day();
        int tells = 0;

        int gainOf(Year year, Day now, Row plan) {
            day.take(now);
            int gain = 0;
            for (int hour = 0; hour < plan.size; hour++) {
                gain += year.gainOfAll(day.facts[MINUTE]);
                day.goOn(year, plan.places[hour]);
            }
            tells = day.facts[MINUTE];
            return gain;
        }

        /** The first hour with a lurch, if the capes of a set have new ropes; tells who lurches. */
        int firstLurch(Year year, Day now, Row plan, int renewed) {
            day.take(now);
            for (int i = 0; i < year.capes; i++) {
                if ((renewed >> i & 1) != 0) {
                    day.facts[ROPE + i] = MOST;
                }
            }
            for (int hour = 0; hour < plan.size; hour++) {
                day.goOn(year, plan.places[hour]);
                if (day.lurched != 0) {
                    tells = day.lurched;
                    return hour;
                }
            }
            return NONE;
        }

        int fewestRopes(Year year, Day now, Row plan) {
            int fewest = CAPES + 1;
            int least = 0;
            for (int set = 0; set <= year.allCapes(); set++) {
                int size = Integer.bitCount(set);
                if (size < fewest && firstLurch(year, now, plan, set) == NONE) {
                    fewest = size;
                    least = set;
                }
            }
            tells = least;
            return fewest > CAPES ? NONE : fewest;
        }

        int hoursTillDown(Year year, Day now, int set) {
            day.take(now);
            int hours = 0;
            while (hours < DOWN_MINUTE && !day.isDown()) {
                day.goOn(year, set);
                hours++;
            }
            return hours;
        }
    }

    /**
     * Goes through rows of sets in their order, one day a depth. A set with capes that can't pull does
     * what the set without them does, which comes first: where the first best row is looked for, sets of
     * capes that can pull are enough.
     */
    private static final class Search {
        private final Day[] days = new Day[SEARCH_HOURS];
        private final int[] plan = new int[SEARCH_HOURS];
        final int[] first = new int[SEARCH_HOURS];
        private int hours = 0;
        private int reached = 0;
        private int goal = 0;
        private int ways = 0;
        int slips = 0;

        Search() {
            for (int depth = 0; depth < SEARCH_HOURS; depth++) {
                days[depth] = new Day();
            }
        }

        int mostGain(Year year, Day now, int n) {
            begin(now, n);
            reached = -1;
            seekMost(year, 0, 0);
            return reached;
        }

        private void seekMost(Year year, int depth, int gain) {
            if (depth >= hours || depth >= SEARCH_HOURS) {
                if (gain > reached) {
                    setFirst(gain);
                }
                return;
            }
            Day day = days[depth];
            day.look(year);
            // Gains go by where the sun is ahead of an hour: who holds in the last one changes none.
            int holders = depth == hours - 1 ? 0 : day.able;
            int sum = gain + year.gainOfAll(day.facts[MINUTE]);
            for (int set = 0; set <= holders; set++) {
                if ((set & ~holders) == 0) {
                    step(year, depth, set);
                    seekMost(year, depth + 1, sum);
                }
            }
        }

        int leastMinute(Year year, Day now, int n) {
            begin(now, n);
            reached = FAR_MINUTE;
            seekSlowest(year, 0, now.facts[MINUTE]);
            return reached;
        }

        private void seekSlowest(Year year, int depth, int minute) {
            if (depth >= hours || depth >= SEARCH_HOURS) {
                if (minute < reached) {
                    setFirst(minute);
                }
                return;
            }
            Day day = days[depth];
            day.look(year);
            int safe = day.able & ~day.frail;
            for (int set = 0; set <= safe; set++) {
                if ((set & ~safe) == 0) {
                    step(year, depth, set);
                    seekSlowest(year, depth + 1, day.minuteBehind(year, set));
                }
            }
        }

        int waysThatFit(Year year, Day now, int set, Row minutes) {
            begin(now, minutes.size);
            ways = 0;
            slips = set;
            seekFitting(year, 0, set, 0, minutes);
            return ways;
        }

        private void seekFitting(Year year, int depth, int set, int slippedYet, Row minutes) {
            if (depth >= hours || depth >= SEARCH_HOURS) {
                if (ways == 0) {
                    setFirst(0);
                }
                ways++;
                slips &= slippedYet;
                return;
            }
            Day day = days[depth];
            day.look(year);
            for (int part = 0; part <= set; part++) {
                if ((part & ~set) == 0 && day.minuteBehind(year, part) == minutes.places[depth]) {
                    step(year, depth, part);
                    seekFitting(year, depth + 1, set, slippedYet | set & ~part, minutes);
                }
            }
        }

        /** In how many rows of parts of a set the sun comes to a minute or beyond it. */
        int waysTo(Year year, Day now, int set, int n, int minute) {
            begin(now, n);
            goal = minute;
            return waysFrom(year, 0, set, now.facts[MINUTE]);
        }

        private int waysFrom(Year year, int depth, int set, int minute) {
            if (depth >= hours || depth >= SEARCH_HOURS) {
                return minute >= goal ? 1 : 0;
            }
            Day day = days[depth];
            day.look(year);
            int sum = 0;
            for (int part = 0; part <= set; part++) {
                if ((part & ~set) == 0) {
                    step(year, depth, part);
                    sum += waysFrom(year, depth + 1, set, day.minuteBehind(year, part));
                }
            }
            return sum;
        }

        private void begin(Day now, int n) {
            hours = n;
            days[0].take(now);
        }

        /** Behind the last hour no day is needed: its minute and gain are known without. */
        private void step(Year year, int depth, int set) {
            plan[depth] = set;
            if (depth + 1 < hours && depth + 1 < SEARCH_HOURS) {
                days[depth + 1].take(days[depth]);
                days[depth + 1].goOn(year, set);
            }
        }

        private void setFirst(int value) {
            reached = value;
            System.arraycopy(plan, 0, first, 0, SEARCH_HOURS);
        }
    }

    /** What valleys would gain in the next two hours by each set that holds in both. */
    private static final class Council {
        private final Day day = new Day();
        private final int[] gains = new int[SETS * VALLEYS];

        void weigh(Year year, Day now) {
            day.take(now);
            day.look(year);
            int minute = day.facts[MINUTE];
            for (int set = 0; set <= year.allCapes(); set++) {
                int next = day.minuteBehind(year, set);
                for (int v = 0; v < year.valleys; v++) {
                    gains[set * VALLEYS + v] = year.gainOf(v, minute) + year.gainOf(v, next);
                }
            }
        }

        int votersFor(Year year, int set, int other) {
            int voters = 0;
            for (int v = 0; v < year.valleys; v++) {
                if (gains[set * VALLEYS + v] > gains[other * VALLEYS + v]) {
                    voters |= 1 << v;
                }
            }
            return voters;
        }

        int firstUnbeaten(Year year) {
            for (int set = 0; set <= year.allCapes(); set++) {
                if (!isBeaten(year, set)) {
                    return set;
                }
            }
            return NONE;
        }

        private boolean isBeaten(Year year, int set) {
            for (int other = 0; other <= year.allCapes(); other++) {
                int against = Integer.bitCount(votersFor(year, other, set));
                if (against > Integer.bitCount(votersFor(year, set, other))) {
                    return true;
                }
            }
            return false;
        }

        /** The first set of valleys that has less by these parts than it could gain. */
        int firstLeaving(Year year, Row parts) {
            for (int valleys = 1; valleys < 1 << year.valleys; valleys++) {
                long has = 0;
                for (int v = 0; v < year.valleys; v++) {
                    if ((valleys >> v & 1) != 0) {
                        has += parts.places[v];
                    }
                }
                if (has < mostOf(year, valleys)) {
                    return valleys;
                }
            }
            return NONE;
        }

        private int mostOf(Year year, int valleys) {
            int most = 0;
            for (int set = 0; set <= year.allCapes(); set++) {
                int sum = 0;
                for (int v = 0; v < year.valleys; v++) {
                    if ((valleys >> v & 1) != 0) {
                        sum += gains[set * VALLEYS + v];
                    }
                }
                most = Math.max(most, sum);
            }
            return most;
        }
    }
}
