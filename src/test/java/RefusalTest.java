import java.util.ArrayList;
import java.util.Arrays;
import java.util.List;

/**
 * Every call with numbers at, within and beyond each bound, in five states: which refusal it is due to
 * answer, by the document's list for the call and its order, and that what is refused changes nothing
 * but finding(), findings(). At the end: calls that look aside change nothing, either.
 */
public final class RefusalTest extends Checks {
    /** A new object; a year by day, the same behind 60 deeds; and both when the sun is down. */
    private enum State { NEW, DAY, FULL_DAY, DOWN, FULL_DOWN }

    /** An object is promised for 512 calls: so many refusals are tried on one. */
    private static final int REFUSALS_TO_AN_OBJECT = 12;

    private static final String YEAR = "c95 s94 l12 v011 d034";
    private static final int[][] ROWS_LAID = {null, {}, {1, 5}, {8, 0, 0, 0, 0, 0, 0, 0, 0, 0, 0, 0, 0}, {0, 7, 0, 1}, {0, 8}};
    private static final String[] TEXTS_PUT = {null, "", YEAR, "c1"};
    private static final int KEPT = 1;

    private static final int[] ROWS = {LEAST, -1, 0, 1, 2, 3, 4, 5, 6, MOST};
    private static final int[] TEXTS = {LEAST, -1, 0, 1, 2, 3, 4, MOST};
    private static final int[] SIZES = {LEAST, -1, 0, 1, 40, 41, 60, 61, MOST};
    private static final int[] PLACES = {LEAST, -1, 0, 1, 2, 3, 4, 12, 13, 20, 21, 40, 60, MOST};
    private static final int[] FEW = {LEAST, -1, 0, 1, 2, 3, 4, 13, 14, MOST};
    private static final int[] ANY = {LEAST, -1, 0, 1, MOST};
    private static final int[] FACTS = {LEAST, -1, 0, 1, 2, 3, 4, 5, 6, 7, 8, 9, 10, MOST};
    private static final int[] SETS = {LEAST, -1, 0, 1, 2, 3, 4, 5, 6, 7, 8, 9, 31, 32, MOST};
    private static final int[] HOURS = {LEAST, -1, 0, 1, 2, 3, 4, MOST};
    private static final int[] DEEDS = {LEAST, -1, 0, 1, 2, 5, 6, 7, 14, 15, 59, 60, 61, MOST};
    private static final int[] MINUTES = {LEAST, -1, 0, 48, 99, 100, MOST};
    private static final int[] LOTS = {LEAST, -1, 0, 1, 2, 19, 20, 21, MOST};
    private static final int[] SEEDS = {LEAST, -1, 0, 1, 2, MOST - 1, MOST};

    private interface Act { long on(SunRopes x, int[] a); }

    /** What a call is due to refuse by: 0 nothing, a refusal below 0, a finding above 0. */
    private interface Law { int of(int[] a); }

    private static State state;

    // ---- what the states are, told as numbers

    private static boolean isNew() { return state == State.NEW; }
    private static boolean isFull() { return state == State.FULL_DAY || state == State.FULL_DOWN; }
    private static boolean isDown() { return state == State.DOWN || state == State.FULL_DOWN; }
    private static int deeds() {
        if (isNew()) return 0;
        if (isFull()) return 60;
        return isDown() ? 14 : 6;
    }
    private static boolean in(int v, int low, int high) { return v >= low && v <= high; }
    private static boolean isSet(int v) { return in(v, 0, isNew() ? 0 : 7); }
    private static boolean isCape(int v) { return !isNew() && in(v, 0, 2); }
    private static boolean isValley(int v) { return !isNew() && in(v, 0, 1); }
    private static int sizeOf(int r) { return ROWS_LAID[r] == null ? -1 : ROWS_LAID[r].length; }
    private static int textSize(int t) { return TEXTS_PUT[t] == null ? -1 : TEXTS_PUT[t].length(); }

    private static SunRopes made() {
        SunRopes x = new SunRopes();
        for (int r = 0; r <= 5; r++) if (ROWS_LAID[r] != null) lay(x, r, ROWS_LAID[r]);
        for (int t = 0; t <= 3; t++) if (TEXTS_PUT[t] != null) write(x, t, TEXTS_PUT[t]);
        if (isNew()) return x;
        due("year", x.year(2), 3);
        x.hold(7);
        x.rope(2, 3);
        x.price(1, 9);
        x.keep(KEPT);
        x.lots(2, 5);
        x.hold(2);
        x.hold(1);
        if (isDown()) holdTimes(x, 8, 0);
        int k = 0;
        for (int left = isFull() ? 60 - x.count(2) : 0; left > 0; left--) x.rope(k++ % 3, 1 + k % 9);
        due("deeds", x.count(2), deeds());
        due("down", x.count(4), isDown() ? 1 : 0);
        due("odds", x.odds(7, 1, 20), 1);
        x.lay(2, 1, 5);
        return x;
    }

    /** All that can be told of an object, its deeds one by one and its kept years, too; it is used up by it. */
    private static long[] portrait(SunRopes x, boolean withWhatIsTold) {
        List<Long> all = new ArrayList<>();
        if (withWhatIsTold) {
            all.add((long) x.asked());
            all.add(x.upper());
            all.add(x.lower());
        }
        all.add(x.digest());
        for (int n = x.count(2); n >= 0; n--) {
            x.undo(n);
            all.add(x.digest());
        }
        for (int k = 0; k <= 2; k++) {
            if (x.on(k) < 0) continue;
            all.add(x.digest());
            all.add((long) x.undo(0));
            all.add(x.digest());
        }
        return all.stream().mapToLong(Long::longValue).toArray();
    }

    private static void duePortrait(String call, SunRopes x, long[] want, boolean withWhatIsTold) {
        due(call + ": all that can be told, as ahead", Arrays.equals(portrait(x, withWhatIsTold), want) ? 1 : 0, 1);
    }

    // ---- the walk

    private static void walk(int number, String name, Law law, Act act, int[]... values) {
        promise = number;
        long[] want = portrait(made(), true);
        SunRopes x = made();
        int refused = 0;
        int[] at = new int[values.length];
        boolean more = true;
        while (more) {
            int[] a = new int[at.length];
            for (int k = 0; k < a.length; k++) a[k] = values[k][at[k]];
            String call = state + " " + name + Arrays.toString(a);
            int refusal = law.of(a);
            if (refusal == 0) {
                goesThrough(call, act, a);
            } else {
                refusedBy(x, call, act, a, refusal);
                refused++;
            }
            more = next(at, values);
            if (refused > 0 && (refused % REFUSALS_TO_AN_OBJECT == 0 || !more)) {
                duePortrait(call + " and those ahead of it", x, want, true);
                x = made();
            }
        }
    }

    private static boolean next(int[] at, int[][] values) {
        for (int k = at.length - 1; k >= 0; k--) {
            if (++at[k] < values[k].length) return true;
            at[k] = 0;
        }
        return false;
    }

    private static void refusedBy(SunRopes x, String call, Act act, int[] a, int refusal) {
        if (refusal > 0) finds(x, call, y -> act.on(y, a), refusal);
        else refuses(x, call, y -> act.on(y, a), refusal);
    }

    private static void goesThrough(String call, Act act, int[] a) {
        SunRopes x = made();
        int finding = x.finding(), all = allFindings(x);
        long got = act.on(x, a);
        due(call + " is not refused", got >= 0 || got == NONE ? 1 : 0, 1);
        due(call + ", finding()", x.finding(), finding);
        due(call + ", findings()", allFindings(x), all);
    }

    // ---- the laws, in the document's order

    private static int ofPlace(int r, int i) {
        if (!in(r, 0, 5)) return BAD;
        if (sizeOf(r) < 0) return NOTHING;
        return in(i, 0, sizeOf(r) - 1) ? 0 : BEYOND;
    }
    private static int ofCopy(int[] a) {
        if (!in(a[0], 0, 5) || !in(a[2], 0, 5)) return BAD;
        if (a[4] < 0) return SIZE;
        if (sizeOf(a[0]) < 0 || sizeOf(a[2]) < 0) return NOTHING;
        boolean from = a[1] >= 0 && (long) a[1] + a[4] <= sizeOf(a[0]);
        boolean to = a[3] >= 0 && (long) a[3] + a[4] <= sizeOf(a[2]);
        return from && to ? 0 : BEYOND;
    }
    private static int ofMean(int r) {
        if (!in(r, 0, 5)) return BAD;
        if (sizeOf(r) < 0) return NOTHING;
        return sizeOf(r) == 0 ? NOUGHT : 0;
    }
    private static int ofPut(int[] a) {
        if (!in(a[0], 0, 3)) return BAD;
        if (textSize(a[0]) < 0) return NOTHING;
        return in(a[1], 0, textSize(a[0]) - 1) ? 0 : BEYOND;
    }
    private static int ofText(int t) {
        if (!in(t, 0, 3)) return BAD;
        return textSize(t) < 0 ? NOTHING : 0;
    }
    private static int ofYear(int t) {
        if (ofText(t) != 0) return ofText(t);
        return t == 2 ? 0 : STATE;
    }
    private static int ofMark(int[] a) {
        if (!isCape(a[0]) || !in(a[1], 1, 5)) return BAD;
        boolean is = a[0] == 1 && a[1] == 2 || a[0] == 2 && (a[1] == 3 || a[1] == 4);
        return is ? 0 : UNLIKE;
    }
    private static int ofDeed(boolean good) {
        if (!good) return BAD;
        if (isNew()) return STATE;
        return isFull() ? FULL : 0;
    }
    private static int ofRope(int[] a) {
        if (!isCape(a[0]) || !in(a[1], 1, 9)) return BAD;
        return isFull() ? FULL : 0;
    }
    private static int ofRise() {
        if (!isDown()) return STATE;
        return isFull() ? FULL : 0;
    }
    private static int withCapes(boolean good) {
        if (!good) return BAD;
        return isNew() ? STATE : 0;
    }
    private static int ofOn(int k) {
        if (!in(k, 0, 2)) return BAD;
        return k == KEPT && !isNew() ? 0 : NOTHING;
    }
    private static int ofRow(int r, int most) {
        if (withCapes(in(r, 0, 5)) != 0) return withCapes(in(r, 0, 5));
        if (sizeOf(r) < 0) return NOTHING;
        return sizeOf(r) > most ? SIZE : 0;
    }
    private static int ofPlan(int r) {
        if (ofRow(r, 12) != 0) return ofRow(r, 12);
        for (int set : ROWS_LAID[r]) if (!isSet(set)) return UNLIKE;
        return 0;
    }
    private static int ofParts(int r) {
        if (ofRow(r, 40) != 0) return ofRow(r, 40);
        return sizeOf(r) == 2 ? 0 : SIZE;
    }
    private static int ofLots(int[] a) {
        if (!in(a[0], 1, 20) || !in(a[1], 1, 2147483646)) return BAD;
        if (isNew()) return STATE;
        return deeds() + a[0] > 60 ? FULL : 0;
    }
    private static int bad(boolean good) { return good ? 0 : BAD; }
    private static int sized(boolean good, int n) {
        if (!good) return BAD;
        return n < 0 ? SIZE : 0;
    }

    private static void rowsAndTexts() {
        walk(2, "row", a -> sized(in(a[0], 0, 5) && a[1] <= 40, a[1]), (x, a) -> x.row(a[0], a[1]), ROWS, SIZES);
        walk(3, "lay", a -> ofPlace(a[0], a[1]), (x, a) -> x.lay(a[0], a[1], a[2]), ROWS, PLACES, ANY);
        walk(4, "at", a -> ofPlace(a[0], a[1]), (x, a) -> x.at(a[0], a[1]), ROWS, PLACES);
        walk(5, "tear", a -> in(a[0], 0, 5) && sizeOf(a[0]) < 0 ? NOTHING : bad(in(a[0], 0, 5)), (x, a) -> x.tear(a[0]), ROWS);
        walk(6, "copy", a -> ofCopy(a), (x, a) -> x.copy(a[0], a[1], a[2], a[3], a[4]),
            new int[] {LEAST, -1, 0, 1, 2, 4, 6, MOST}, FEW, new int[] {-1, 0, 1, 2, 3, 6}, FEW, FEW);
        walk(7, "mean", a -> ofMean(a[0]), (x, a) -> x.mean(a[0]), ROWS);
        walk(8, "text", a -> sized(in(a[0], 0, 3) && a[1] <= 60, a[1]), (x, a) -> x.text(a[0], a[1]), TEXTS, SIZES);
        walk(9, "put", a -> ofPut(a), (x, a) -> x.put(a[0], a[1], a[2]), TEXTS, PLACES, ANY);
        walk(10, "fault", a -> ofText(a[0]), (x, a) -> x.fault(a[0]), TEXTS);
        walk(11, "year", a -> ofYear(a[0]), (x, a) -> x.year(a[0]), TEXTS);
        walk(12, "cape", a -> bad(isCape(a[0]) && in(a[1], 0, 3)), (x, a) -> x.cape(a[0], a[1]), FACTS, FACTS);
        walk(13, "valley", a -> bad(isValley(a[0]) && in(a[1], 0, 4)), (x, a) -> x.valley(a[0], a[1]), FACTS, FACTS);
        walk(14, "mark", a -> ofMark(a), (x, a) -> x.mark(a[0], a[1]), FACTS, FACTS);
        walk(15, "price", a -> bad(isValley(a[0]) && in(a[1], 0, 9)), (x, a) -> x.price(a[0], a[1]), FACTS, FACTS);
    }

    private static void hours() {
        walk(16, "hold", a -> ofDeed(isSet(a[0])), (x, a) -> x.hold(a[0]), SETS);
        walk(17, "rope", a -> ofRope(a), (x, a) -> x.rope(a[0], a[1]), FACTS, FACTS);
        walk(18, "rise", a -> ofRise(), (x, a) -> x.rise());
        walk(19, "undo", a -> bad(in(a[0], 0, deeds())), (x, a) -> x.undo(a[0]), DEEDS);
        walk(20, "sun", a -> withCapes(true), (x, a) -> x.sun());
        walk(21, "gained", a -> 0, (x, a) -> x.gained());
        walk(22, "keep", a -> withCapes(in(a[0], 0, 2)), (x, a) -> x.keep(a[0]), HOURS);
        walk(23, "on", a -> ofOn(a[0]), (x, a) -> x.on(a[0]), HOURS);
    }

    private static void lookingOn() {
        walk(24, "run", a -> ofPlan(a[0]), (x, a) -> x.run(a[0]), ROWS);
        walk(25, "burns", a -> ofPlan(a[0]), (x, a) -> x.burns(a[0]), ROWS);
        walk(26, "best", a -> withCapes(in(a[0], 0, 3) && in(a[1], 0, 5)), (x, a) -> x.best(a[0], a[1]), HOURS, ROWS);
        walk(27, "slowest", a -> withCapes(in(a[0], 0, 3) && in(a[1], 0, 5)), (x, a) -> x.slowest(a[0], a[1]), HOURS, ROWS);
        walk(28, "down", a -> withCapes(isSet(a[0])), (x, a) -> x.down(a[0]), SETS);
        walk(29, "longest", a -> withCapes(true), (x, a) -> x.longest());
        walk(30, "ropes", a -> ofPlan(a[0]), (x, a) -> x.ropes(a[0]), ROWS);
        walk(31, "loose", a -> bad(isSet(a[0]) && in(a[1], 0, 5)), (x, a) -> x.loose(a[0], a[1]), SETS, ROWS);
        walk(32, "votes", a -> withCapes(isSet(a[0]) && isSet(a[1])), (x, a) -> x.votes(a[0], a[1]), SETS, SETS);
        walk(33, "choice", a -> withCapes(true), (x, a) -> x.choice());
        walk(34, "parts", a -> ofParts(a[0]), (x, a) -> x.parts(a[0]), ROWS);
        walk(35, "fits", a -> isSet(a[0]) && in(a[2], 0, 5) ? ofRow(a[1], 3) : BAD, (x, a) -> x.fits(a[0], a[1], a[2]),
            SETS, ROWS, ROWS);
        walk(36, "slipped", a -> isSet(a[0]) ? ofRow(a[1], 3) : BAD, (x, a) -> x.slipped(a[0], a[1]), SETS, ROWS);
        walk(37, "odds", a -> withCapes(isSet(a[0]) && in(a[1], 0, 3) && in(a[2], 0, 99)), (x, a) -> x.odds(a[0], a[1], a[2]),
            SETS, HOURS, MINUTES);
        walk(38, "lots", a -> ofLots(a), (x, a) -> x.lots(a[0], a[1]), LOTS, SEEDS);
        walk(42, "count", a -> bad(in(a[0], 0, 8)), (x, a) -> x.count(a[0]), FACTS);
        walk(44, "findings", a -> bad(in(a[0], 1, 5)), (x, a) -> x.findings(a[0]), FACTS);
    }

    /** Calls that look at what would be or was, and tell: no deed, no year, no kept year is touched by them. */
    private static void lookingAside() {
        promise = 0;
        long[] want = portrait(made(), false);
        SunRopes x = made();
        int all = isNew() ? 0 : 7;
        x.sun();
        x.gained();
        x.run(4);
        x.burns(4);
        x.ropes(4);
        x.best(3, 0);
        x.slowest(3, 0);
        x.longest();
        x.choice();
        for (int set = 0; set <= all; set++) {
            x.down(set);
            x.loose(set, 0);
            x.votes(set, all);
            x.fits(set, 2, 0);
            x.slipped(set, 2);
            x.odds(set, 3, 20);
        }
        x.parts(2);
        for (int i = 0; i < 3; i++) for (int k = 1; k <= 5; k++) x.mark(i, k);
        for (int what = 0; what <= 8; what++) x.count(what);
        x.at(2, 1);
        x.mean(2);
        x.fault(2);
        x.tear(0);
        duePortrait(state + " calls that look aside", x, want, false);
    }

    public static void main(String[] args) {
        for (State s : State.values()) {
            state = s;
            rowsAndTexts();
            hours();
            lookingOn();
            lookingAside();
        }
        tellEnd();
    }
}
