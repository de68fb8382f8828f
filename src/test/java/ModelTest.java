import java.util.ArrayList;
import java.util.Arrays;
import java.util.List;
import java.util.Random;

/**
 * Long runs of calls, by lots of fixed seeds, on the class and on a slow model that is written
 * from the document alone: every hour is truly gone through, every row of sets is tried.
 */
public final class ModelTest {
    private static final int BAD = -1, FULL = -2, FINDING = -3, STATE = -4, NONE = -9;

    // ---- the model

    private abstract static class Cape implements Cloneable {
        int rope, crew;
        int kind() { return 0; }
        int pull() { return 1; }
        boolean can(int minute) { return rope >= 1 && crew >= 1; }
        void wear(int place) { rope--; }
        void tire() { crew--; }
        void rest() { crew = Math.min(9, crew + 1); }
        Cape twin() {
            try {
                return (Cape) clone();
            } catch (CloneNotSupportedException e) {
                throw new IllegalStateException(e);
            }
        }
    }
    private static final class Plain extends Cape { }
    private static final class Hair extends Cape {
        int kind() { return 1; }
        void wear(int place) { if (place % 2 == 0) rope--; }
    }
    private static class Strong extends Cape {
        int kind() { return 2; }
        int pull() { return 2; }
    }
    private static class Noon extends Cape {
        int kind() { return 3; }
        boolean can(int minute) { return super.can(minute) && minute < 24; }
    }
    private static final class Lazy extends Noon {
        int kind() { return 4; }
        void rest() { crew = Math.min(9, crew + 2); }
    }
    private static final class Giant extends Strong {
        int kind() { return 5; }
        void tire() { }
    }

    private static final class State {
        List<Cape> capes = new ArrayList<>();
        int minute, owed;
        int[] gains = new int[4];
        int pulled, lurched;

        State twin() {
            State s = new State();
            for (Cape c : capes) s.capes.add(c.twin());
            s.minute = minute;
            s.owed = owed;
            s.gains = gains.clone();
            return s;
        }
        boolean isDown() { return minute >= 48; }
        int able() {
            int bits = 0;
            for (int i = 0; i < capes.size(); i++) if (!isDown() && capes.get(i).can(minute)) bits |= 1 << i;
            return bits;
        }
        int hour(int set, List<int[]> valleys) {
            for (int v = 0; v < valleys.size(); v++) {
                int[] w = valleys.get(v);
                int place = minute / 6;
                boolean inside = place >= w[1] && place <= w[2];
                boolean gains1;
                if (isDown()) gains1 = w[0] == 0;
                else if (w[0] == 1) gains1 = inside;
                else gains1 = !inside;
                if (gains1) gains[v] += w[3];
            }
            pulled = 0;
            lurched = 0;
            if (isDown()) {
                for (Cape c : capes) c.rest();
                return 0;
            }
            int place = minute / 6, pull = 0, lurches = 0;
            int able = able();
            for (int i = 0; i < capes.size(); i++) {
                Cape c = capes.get(i);
                if ((set & able & 1 << i) == 0) {
                    c.rest();
                    continue;
                }
                pulled |= 1 << i;
                pull += c.pull();
                c.wear(place);
                c.tire();
                if (c.rope == 0) {
                    lurches++;
                    lurched |= 1 << i;
                }
            }
            int goes = 6 - pull < 1 ? 1 : 6 - pull;
            owed += 6 - goes;
            minute += goes + 2 * lurches;
            return goes + 2 * lurches;
        }
        int total() { return gains[0] + gains[1] + gains[2] + gains[3]; }
    }

    private static final class Kept {
        State state;
        List<State> before;
        List<int[]> valleys;
    }

    private static final class Model {
        int[][] rows = new int[6][];
        byte[][] texts = new byte[4][];
        State s = new State();
        List<State> before = new ArrayList<>();
        List<int[]> valleys = new ArrayList<>();
        Kept[] kept = new Kept[3];
        int asked, finding;
        int[] findings = new int[6];
        long upper = 0, lower = 1;

        int found(int f) { finding = f; findings[f]++; return FINDING; }
        boolean isSet(int set) { return set >= 0 && set < 1 << s.capes.size(); }
        boolean none() { return s.capes.isEmpty(); }

        long call(String name, int[] a) {
            switch (name) {
                case "row": return row(a[0], a[1]);
                case "lay": case "at": return place(name, a);
                case "tear": return tear(a[0]);
                case "copy": return copy(a[0], a[1], a[2], a[3], a[4]);
                case "mean": return mean(a[0]);
                case "text": return text(a[0], a[1]);
                case "put": return put(a[0], a[1], a[2]);
                case "fault": return fault(a[0]);
                case "year": return year(a[0]);
                case "cape": return cape(a[0], a[1]);
                case "valley": return valley(a[0], a[1]);
                case "mark": return mark(a[0], a[1]);
                case "price": return price(a[0], a[1]);
                case "hold": return hold(a[0]);
                case "rope": return rope(a[0], a[1]);
                case "rise": return rise();
                case "undo": return undo(a[0]);
                case "sun": return sun();
                case "gained": return gained();
                case "keep": return keep(a[0]);
                case "on": return on(a[0]);
                case "run": case "burns": case "ropes": return plan(name, a[0]);
                case "best": case "slowest": return searched(name, a[0], a[1]);
                case "down": return down(a[0]);
                case "longest": return longest();
                case "loose": return loose(a[0], a[1]);
                case "votes": return votes(a[0], a[1]);
                case "choice": return choice();
                case "parts": return parts(a[0]);
                case "fits": return fits(a[0], a[1], a[2], true);
                case "slipped": return fits(a[0], a[1], 0, false);
                case "odds": return odds(a[0], a[1], a[2]);
                case "lots": return lots(a[0], a[1]);
                case "asked": return asked;
                case "upper": return upper;
                case "lower": return lower;
                case "count": return a[0] < 0 || a[0] > 8 ? BAD : count(a[0]);
                case "finding": return finding;
                case "findings": return a[0] < 1 || a[0] > 5 ? BAD : findings[a[0]];
                case "digest": return digest();
                default: throw new IllegalStateException(name);
            }
        }

        int row(int r, int n) {
            if (r < 0 || r > 5 || n > 40) return BAD;
            if (n < 0) return found(5);
            rows[r] = new int[n];
            return n;
        }
        int place(String name, int[] a) {
            if (a[0] < 0 || a[0] > 5) return BAD;
            int[] row = rows[a[0]];
            if (row == null) return found(1);
            if (a[1] < 0 || a[1] >= row.length) return found(2);
            asked = row[a[1]];
            if (name.equals("lay")) row[a[1]] = a[2];
            return 1;
        }
        int tear(int r) {
            if (r < 0 || r > 5) return BAD;
            if (rows[r] == null) return found(1);
            rows[r] = null;
            return 1;
        }
        int copy(int r, int i, int to, int j, int n) {
            if (r < 0 || r > 5 || to < 0 || to > 5) return BAD;
            if (n < 0) return found(5);
            if (rows[r] == null || rows[to] == null) return found(1);
            if (i < 0 || (long) i + n > rows[r].length || j < 0 || (long) j + n > rows[to].length) return found(2);
            int[] taken = Arrays.copyOfRange(rows[r], i, i + n);
            for (int k = 0; k < n; k++) rows[to][j + k] = taken[k];
            return 1;
        }
        int mean(int r) {
            if (r < 0 || r > 5) return BAD;
            if (rows[r] == null) return found(1);
            if (rows[r].length == 0) return found(4);
            long sum = 0;
            for (int v : rows[r]) sum += v;
            asked = (int) (sum / rows[r].length);
            return 1;
        }
        int text(int t, int n) {
            if (t < 0 || t > 3 || n > 60) return BAD;
            if (n < 0) return found(5);
            texts[t] = new byte[n];
            Arrays.fill(texts[t], (byte) ' ');
            return n;
        }
        int put(int t, int i, int v) {
            if (t < 0 || t > 3) return BAD;
            if (texts[t] == null) return found(1);
            if (i < 0 || i >= texts[t].length) return found(2);
            int was = texts[t][i];
            texts[t][i] = (byte) v;
            return 1000 + was;
        }

        // A text's fault by what may follow: the place at which no way to go on is left.
        private List<Cape> readCapes;
        private List<int[]> readValleys;
        int faultOf(byte[] text) {
            readCapes = new ArrayList<>();
            readValleys = new ArrayList<>();
            Cape cape = null;
            int[] valley = null;
            int inItem = 0;
            for (int p = 0; p < text.length; p++) {
                char c = (char) (text[p] & 255);
                boolean figure = c >= '0' && c <= '9';
                int f = c - '0';
                if (inItem == 0) {
                    if (c == ' ') continue;
                    if ("chsnlg".indexOf(c) >= 0) {
                        if (readCapes.size() == 5 || !readValleys.isEmpty()) return p;
                        Cape[] kinds = {new Plain(), new Hair(), new Strong(), new Noon(), new Lazy(), new Giant()};
                        cape = kinds["chsnlg".indexOf(c)];
                        valley = null;
                        readCapes.add(cape);
                    } else if (c == 'v' || c == 'd') {
                        if (readCapes.isEmpty() || readValleys.size() == 4) return p;
                        valley = new int[] {c == 'v' ? 1 : 0, 0, 0, 0};
                        cape = null;
                        readValleys.add(valley);
                    } else {
                        return p;
                    }
                    inItem = 1;
                } else {
                    if (!figure) return p;
                    if (cape != null) {
                        if (inItem == 1) cape.rope = f; else cape.crew = f;
                        inItem = inItem == 2 ? 0 : inItem + 1;
                    } else {
                        if (inItem < 3 && f > 7) return p;
                        if (inItem == 2 && f < valley[1]) return p;
                        if (inItem == 3 && f == 0) return p;
                        valley[inItem] = f;
                        inItem = inItem == 3 ? 0 : inItem + 1;
                    }
                }
            }
            return inItem != 0 || readCapes.isEmpty() ? text.length : NONE;
        }
        int fault(int t) {
            if (t < 0 || t > 3) return BAD;
            if (texts[t] == null) return found(1);
            return faultOf(texts[t]);
        }
        int year(int t) {
            if (t < 0 || t > 3) return BAD;
            if (texts[t] == null) return found(1);
            if (faultOf(texts[t]) != NONE) return STATE;
            s = new State();
            s.capes = readCapes;
            valleys = readValleys;
            before = new ArrayList<>();
            kept = new Kept[3];
            return s.capes.size();
        }
        int capeFact(int i, int what) {
            Cape c = s.capes.get(i);
            if (what == 0) return c.kind();
            if (what == 1) return c.rope;
            if (what == 2) return c.crew;
            return !s.isDown() && c.can(s.minute) ? c.pull() : 0;
        }
        int cape(int i, int what) {
            if (i < 0 || i >= s.capes.size() || what < 0 || what > 3) return BAD;
            asked = capeFact(i, what);
            return 1;
        }
        int valley(int v, int what) {
            if (v < 0 || v >= valleys.size() || what < 0 || what > 4) return BAD;
            asked = what == 4 ? s.gains[v] : valleys.get(v)[what];
            return 1;
        }
        int mark(int i, int kind) {
            if (i < 0 || i >= s.capes.size() || kind < 1 || kind > 5) return BAD;
            Cape c = s.capes.get(i);
            if (kind == 1 && c instanceof Hair) return s.isDown() ? 0 : s.minute / 6 % 2 == 0 ? 1 : 0;
            if (kind == 2 && c instanceof Strong) {
                int n = 0;
                for (Cape o : s.capes) if (o.pull() < c.pull()) n++;
                return n;
            }
            if (kind == 3 && c instanceof Noon) return s.minute < 24 ? 24 - s.minute : 0;
            if (kind == 4 && c instanceof Lazy) {
                Cape t = c.twin();
                int n = 0;
                while (t.crew < 9) { t.rest(); n++; }
                return n;
            }
            if (kind == 5 && c instanceof Giant) {
                Cape t = c.twin();
                int n = 0;
                while (t.can(0)) { t.wear(0); t.tire(); n++; }
                return n;
            }
            return found(3);
        }
        int price(int v, int worth) {
            if (v < 0 || v >= valleys.size() || worth < 0 || worth > 9) return BAD;
            int was = valleys.get(v)[3];
            valleys.get(v)[3] = worth;
            return was;
        }
        int hold(int set) {
            if (!isSet(set)) return BAD;
            if (none()) return STATE;
            if (before.size() == 60) return FULL;
            before.add(s.twin());
            int went = s.hour(set, valleys);
            asked = s.pulled;
            return went;
        }
        int rope(int i, int v) {
            if (i < 0 || i >= s.capes.size() || v < 1 || v > 9) return BAD;
            if (before.size() == 60) return FULL;
            before.add(s.twin());
            int was = s.capes.get(i).rope;
            s.capes.get(i).rope = v;
            return was;
        }
        int rise() {
            if (none() || !s.isDown()) return STATE;
            if (before.size() == 60) return FULL;
            before.add(s.twin());
            int paid = 0;
            while (s.owed >= 6 && paid < 42) { s.owed -= 6; paid += 6; }
            s.minute = paid;
            return paid;
        }
        int undo(int n) {
            if (n < 0 || n > before.size()) return BAD;
            int undone = 0;
            while (before.size() > n) { s = before.remove(before.size() - 1); undone++; }
            return undone;
        }
        int sun() {
            if (none()) return STATE;
            asked = s.owed;
            return s.minute;
        }
        int gained() {
            asked = NONE;
            for (int v = valleys.size() - 1; v >= 0; v--) if (asked == NONE || s.gains[v] >= s.gains[asked]) asked = v;
            return s.total();
        }
        private static List<int[]> twins(List<int[]> list) {
            List<int[]> twin = new ArrayList<>();
            for (int[] v : list) twin.add(v.clone());
            return twin;
        }
        private static List<State> twinStates(List<State> list) {
            List<State> twin = new ArrayList<>();
            for (State t : list) twin.add(t.twin());
            return twin;
        }
        int keep(int k) {
            if (k < 0 || k > 2) return BAD;
            if (none()) return STATE;
            kept[k] = new Kept();
            kept[k].state = s.twin();
            kept[k].before = twinStates(before);
            kept[k].valleys = twins(valleys);
            return before.size();
        }
        int on(int k) {
            if (k < 0 || k > 2) return BAD;
            if (kept[k] == null) return found(1);
            s = kept[k].state.twin();
            before = twinStates(kept[k].before);
            valleys = twins(kept[k].valleys);
            return before.size();
        }
        int plan(String name, int r) {
            if (r < 0 || r > 5) return BAD;
            if (none()) return STATE;
            if (rows[r] == null) return found(1);
            if (rows[r].length > 12) return found(5);
            for (int set : rows[r]) if (!isSet(set)) return found(3);
            if (name.equals("run")) {
                State t = s.twin();
                for (int set : rows[r]) t.hour(set, valleys);
                asked = t.minute;
                return t.total() - s.total();
            }
            if (name.equals("burns")) {
                State t = s.twin();
                for (int h = 0; h < rows[r].length; h++) {
                    t.hour(rows[r][h], valleys);
                    if (t.lurched != 0) { asked = t.lurched; return h; }
                }
                return NONE;
            }
            for (int n = 0; n <= s.capes.size(); n++) {
                for (int set = 0; set < 1 << s.capes.size(); set++) {
                    if (Integer.bitCount(set) != n) continue;
                    State t = s.twin();
                    for (int i = 0; i < t.capes.size(); i++) if ((set & 1 << i) != 0) t.capes.get(i).rope = 9;
                    int lurched = 0;
                    for (int h : rows[r]) { t.hour(h, valleys); lurched |= t.lurched; }
                    if (lurched == 0) { asked = set; return n; }
                }
            }
            return NONE;
        }

        /** All rows of n parts of a set, in their order. */
        static List<int[]> plansOf(int set, int n) {
            List<int[]> all = new ArrayList<>();
            all.add(new int[0]);
            for (int k = 0; k < n; k++) {
                List<int[]> longer = new ArrayList<>();
                for (int[] p : all) {
                    for (int part = 0; part < 32; part++) {
                        if ((part | set) != set) continue;
                        int[] q = Arrays.copyOf(p, k + 1);
                        q[k] = part;
                        longer.add(q);
                    }
                }
                all = longer;
            }
            return all;
        }
        int searched(String name, int n, int r) {
            if (n < 0 || n > 3 || r < 0 || r > 5) return BAD;
            if (none()) return STATE;
            int record = 0;
            int[] first = null;
            for (int[] p : plansOf((1 << s.capes.size()) - 1, n)) {
                State t = s.twin();
                int lurched = 0;
                for (int set : p) { t.hour(set, valleys); lurched |= t.lurched; }
                int gain = t.total() - s.total();
                boolean better = name.equals("best") ? first == null || gain > record
                    : lurched == 0 && (first == null || t.minute < record);
                if (better) {
                    first = p;
                    record = name.equals("best") ? gain : t.minute;
                }
            }
            rows[r] = first.clone();
            return record;
        }
        int hoursDown(int set) {
            State t = s.twin();
            int n = 0;
            while (!t.isDown()) { t.hour(set, valleys); n++; }
            return n;
        }
        int down(int set) {
            if (!isSet(set)) return BAD;
            return none() ? STATE : hoursDown(set);
        }
        int longest() {
            if (none()) return STATE;
            int first = -1;
            for (int set = 0; isSet(set); set++) if (first < 0 || hoursDown(set) > hoursDown(first)) first = set;
            asked = hoursDown(first);
            return first;
        }
        private int leastJumps;
        private List<Integer> leastOrder;
        private void orders(List<Integer> order, int left, int jumps) {
            if (left == 0) {
                if (leastOrder == null || jumps < leastJumps) { leastJumps = jumps; leastOrder = new ArrayList<>(order); }
                return;
            }
            for (int i = 0; i < 5; i++) {
                if ((left & 1 << i) == 0) continue;
                int rest = left & ~(1 << i);
                order.add(i);
                orders(order, rest, jumps + s.capes.get(i).pull() * Integer.bitCount(rest));
                order.remove(order.size() - 1);
            }
        }
        int loose(int set, int r) {
            if (!isSet(set) || r < 0 || r > 5) return BAD;
            leastOrder = null;
            orders(new ArrayList<>(), set, 0);
            rows[r] = new int[leastOrder.size()];
            for (int k = 0; k < rows[r].length; k++) rows[r][k] = leastOrder.get(k);
            return leastJumps;
        }
        int[] twoHours(int set) {
            State t = s.twin();
            t.hour(set, valleys);
            t.hour(set, valleys);
            int[] g = new int[valleys.size()];
            for (int v = 0; v < g.length; v++) g[v] = t.gains[v] - s.gains[v];
            return g;
        }
        int voters(int set, int other) {
            int[] a = twoHours(set), b = twoHours(other);
            int bits = 0;
            for (int v = 0; v < a.length; v++) if (a[v] > b[v]) bits |= 1 << v;
            return bits;
        }
        int votes(int set, int other) {
            if (!isSet(set) || !isSet(other)) return BAD;
            if (none()) return STATE;
            asked = voters(set, other);
            return Integer.bitCount(asked);
        }
        int choice() {
            if (none()) return STATE;
            for (int set = 0; isSet(set); set++) {
                boolean beaten = false;
                for (int o = 0; isSet(o) && !beaten; o++) {
                    beaten = Integer.bitCount(voters(o, set)) > Integer.bitCount(voters(set, o));
                }
                if (!beaten) return set;
            }
            return NONE;
        }
        int parts(int r) {
            if (r < 0 || r > 5) return BAD;
            if (none()) return STATE;
            if (rows[r] == null) return found(1);
            if (rows[r].length != valleys.size()) return found(5);
            for (int w = 0; w < 1 << valleys.size(); w++) {
                long has = 0;
                for (int v = 0; v < valleys.size(); v++) if ((w & 1 << v) != 0) has += rows[r][v];
                for (int set = 0; isSet(set); set++) {
                    int[] g = twoHours(set);
                    int sum = 0;
                    for (int v = 0; v < g.length; v++) if ((w & 1 << v) != 0) sum += g[v];
                    if (sum > has) { asked = w; return 0; }
                }
            }
            asked = NONE;
            return 1;
        }
        int fits(int set, int r, int to, boolean lay) {
            if (!isSet(set) || r < 0 || r > 5 || to < 0 || to > 5) return BAD;
            if (none()) return STATE;
            if (rows[r] == null) return found(1);
            if (rows[r].length > 3) return found(5);
            int ways = 0, slipped = set;
            int[] first = null;
            for (int[] p : plansOf(set, rows[r].length)) {
                State t = s.twin();
                boolean fit = true;
                int slips = 0;
                for (int h = 0; h < p.length; h++) {
                    t.hour(p[h], valleys);
                    fit &= t.minute == rows[r][h];
                    slips |= set & ~p[h];
                }
                if (!fit) continue;
                if (first == null) first = p;
                ways++;
                slipped &= slips;
            }
            if (!lay) return ways == 0 ? 0 : slipped;
            if (first != null) rows[to] = first.clone();
            return ways;
        }
        int odds(int set, int n, int m) {
            if (!isSet(set) || n < 0 || n > 3 || m < 0 || m > 99) return BAD;
            if (none()) return STATE;
            long ways = 0, all = 0;
            for (int[] p : plansOf(set, n)) {
                State t = s.twin();
                for (int h : p) t.hour(h, valleys);
                all++;
                if (t.minute >= m) ways++;
            }
            long a = ways, b = all;
            while (b != 0) { long c = a % b; a = b; b = c; }
            upper = ways / a;
            lower = all / a;
            return 1;
        }
        int lots(int n, int seed) {
            if (n < 1 || n > 20 || seed < 1 || seed > 2147483646) return BAD;
            if (none()) return STATE;
            if (before.size() + n > 60) return FULL;
            long x = seed;
            int went = 0;
            for (int k = 0; k < n; k++) {
                x = x * 48271 % 2147483647;
                before.add(s.twin());
                went += s.hour((int) (x / 32 % (1 << s.capes.size())), valleys);
            }
            return went;
        }
        int count(int what) {
            int n = 0;
            switch (what) {
                case 0: return s.capes.size();
                case 1: return valleys.size();
                case 2: return before.size();
                case 3: return Integer.bitCount(s.able());
                case 4: return s.isDown() ? 1 : 0;
                case 5: for (Cape c : s.capes) if (c instanceof Strong) n++; return n;
                case 6: for (int[] r : rows) if (r != null) n++; return n;
                case 7: for (byte[] t : texts) if (t != null) n++; return n;
                default: for (Kept k : kept) if (k != null) n++; return n;
            }
        }
        long digest() {
            List<Integer> all = new ArrayList<>();
            for (int what = 0; what < 9; what++) all.add(count(what));
            all.add(s.minute);
            all.add(s.owed);
            for (int i = 0; i < s.capes.size(); i++) for (int w = 0; w < 4; w++) all.add(capeFact(i, w));
            for (int v = 0; v < valleys.size(); v++) {
                for (int w = 0; w < 4; w++) all.add(valleys.get(v)[w]);
                all.add(s.gains[v]);
            }
            for (Kept k : kept) all.add(k == null ? -1 : k.before.size());
            for (int[] r : rows) {
                all.add(r == null ? -1 : r.length);
                if (r != null) for (int v : r) all.add(v);
            }
            for (byte[] t : texts) {
                all.add(t == null ? -1 : t.length);
                if (t != null) for (byte b : t) all.add((int) b);
            }
            long h = 17;
            for (int v : all) h = 31 * h + v;
            return h;
        }
    }

    // ---- the class under test, by the same names

    private static long real(SunRopes x, String name, int[] a) {
        switch (name) {
            case "row": return x.row(a[0], a[1]);
            case "lay": return x.lay(a[0], a[1], a[2]);
            case "at": return x.at(a[0], a[1]);
            case "tear": return x.tear(a[0]);
            case "copy": return x.copy(a[0], a[1], a[2], a[3], a[4]);
            case "mean": return x.mean(a[0]);
            case "text": return x.text(a[0], a[1]);
            case "put": return x.put(a[0], a[1], a[2]);
            case "fault": return x.fault(a[0]);
            case "year": return x.year(a[0]);
            case "cape": return x.cape(a[0], a[1]);
            case "valley": return x.valley(a[0], a[1]);
            case "mark": return x.mark(a[0], a[1]);
            case "price": return x.price(a[0], a[1]);
            case "hold": return x.hold(a[0]);
            case "rope": return x.rope(a[0], a[1]);
            case "rise": return x.rise();
            case "undo": return x.undo(a[0]);
            case "sun": return x.sun();
            case "gained": return x.gained();
            case "keep": return x.keep(a[0]);
            case "on": return x.on(a[0]);
            case "run": return x.run(a[0]);
            case "burns": return x.burns(a[0]);
            case "best": return x.best(a[0], a[1]);
            case "slowest": return x.slowest(a[0], a[1]);
            case "down": return x.down(a[0]);
            case "longest": return x.longest();
            case "ropes": return x.ropes(a[0]);
            case "loose": return x.loose(a[0], a[1]);
            case "votes": return x.votes(a[0], a[1]);
            case "choice": return x.choice();
            case "parts": return x.parts(a[0]);
            case "fits": return x.fits(a[0], a[1], a[2]);
            case "slipped": return x.slipped(a[0], a[1]);
            case "odds": return x.odds(a[0], a[1], a[2]);
            case "lots": return x.lots(a[0], a[1]);
            case "asked": return x.asked();
            case "upper": return x.upper();
            case "lower": return x.lower();
            case "count": return x.count(a[0]);
            case "finding": return x.finding();
            case "findings": return x.findings(a[0]);
            case "digest": return x.digest();
            default: throw new IllegalStateException(name);
        }
    }

    // ---- the runs

    private static final String[] WILD = {"row 2", "lay 3", "at 2", "tear 1", "copy 5", "mean 1", "text 2", "put 3",
        "fault 1", "year 1", "cape 2", "valley 2", "mark 2", "price 2", "hold 1", "rope 2", "rise 0", "undo 1",
        "sun 0", "gained 0", "keep 1", "on 1", "run 1", "burns 1", "best 2", "slowest 2", "down 1", "longest 0",
        "ropes 1", "loose 2", "votes 2", "choice 0", "parts 1", "fits 3", "slipped 2", "odds 3", "lots 2",
        "asked 0", "upper 0", "lower 0", "count 1", "finding 0", "findings 1", "digest 0"};

    private static int wrong = 0;
    private static int calls = 0;

    private final Random random;
    private final SunRopes x = new SunRopes();
    private final Model m = new Model();
    private final int run;
    private final StringBuilder told = new StringBuilder();

    private ModelTest(int run) {
        this.run = run;
        this.random = new Random(1000L + run);
    }

    private long both(String name, int... a) {
        calls++;
        long want = m.call(name, a);
        long got = real(x, name, a);
        told.append(name).append(Arrays.toString(a)).append(" = ").append(got).append('\n');
        if (got != want) {
            report(name + Arrays.toString(a), got, want);
        }
        return got;
    }

    private void report(String call, long got, long want) {
        wrong++;
        if (wrong <= 3) {
            System.out.println(told);
        }
        if (wrong <= 20) {
            System.out.println("run " + run + ": " + call + " answered " + got + ", due is " + want);
        }
    }

    private void same() {
        both("digest");
        both("asked");
        both("upper");
        both("lower");
        both("finding");
        for (int f = 1; f <= 5; f++) both("findings", f);
    }

    private int below(int n) { return random.nextInt(n); }

    /** A number near the edges that the document names, now and then a wild one. */
    private int edge(int low, int high) {
        int k = below(40);
        if (k == 0) return Integer.MIN_VALUE;
        if (k == 1) return Integer.MAX_VALUE;
        if (k == 2) return low - 1;
        if (k == 3) return high + 1;
        if (k == 4) return high;
        if (k == 5) return low;
        return low + below(high - low + 1);
    }

    private String yearText() {
        StringBuilder b = new StringBuilder();
        int capes = 1 + below(5), valleys = below(5);
        for (int i = 0; i < capes; i++) {
            blanks(b);
            b.append("chsnlg".charAt(below(6))).append(below(4) == 0 ? 9 : below(4)).append(below(3) == 0 ? 9 : below(5));
        }
        for (int v = 0; v < valleys; v++) {
            blanks(b);
            int from = below(8), to = from + below(8 - from);
            b.append(below(2) == 0 ? 'v' : 'd').append(from).append(to).append(1 + below(9));
        }
        blanks(b);
        if (b.length() > 60) b.setLength(60);
        return b.toString();
    }

    private void blanks(StringBuilder b) { for (int k = below(3) * below(2); k > 0; k--) b.append(' '); }

    private void write(int t, String text) {
        both("text", t, text.length());
        for (int p = 0; p < text.length(); p++) if (text.charAt(p) != ' ') both("put", t, p, text.charAt(p));
    }

    private void broken() {
        StringBuilder b = new StringBuilder(yearText());
        String signs = "chsnlgvd 0123456789x\u007f/:CV";
        for (int k = below(3); k >= 0 && b.length() > 0; k--) {
            int p = below(b.length()), how = below(3);
            char c = signs.charAt(below(signs.length()));
            if (how == 0) b.setCharAt(p, c);
            else if (how == 1 && b.length() < 60) b.insert(p, c);
            else b.deleteCharAt(p);
        }
        write(1, b.toString());
        if (below(8) == 0 && b.length() > 0) both("put", 1, below(b.length()), below(2000) - 1000);
        both("fault", 1);
        if (below(4) == 0) both("year", 1);
    }

    private int aSet() { return below(1 << Math.max(0, m.s.capes.size())); }

    private void layPlan(int r, int hours) {
        both("row", r, hours);
        int always = below(2) == 0 ? 31 : aSet();
        for (int h = 0; h < hours; h++) both("lay", r, h, below(2) == 0 ? aSet() : always & (1 << m.s.capes.size()) - 1);
    }

    private void plans() {
        layPlan(2, below(13));
        both("run", 2);
        both("asked");
        both("burns", 2);
        both("asked");
        both("ropes", 2);
        both("asked");
        both("best", below(3), 3);
        both("slowest", below(3), 4);
        both("down", aSet());
        both("longest");
        both("asked");
        both("run", 3);
        both("asked");
    }

    private void votes() {
        both("loose", aSet(), 1);
        both("votes", aSet(), aSet());
        both("asked");
        both("choice");
        both("row", 5, m.valleys.size());
        for (int v = 0; v < m.valleys.size(); v++) both("lay", 5, v, below(20) - 1);
        both("parts", 5);
        both("asked");
    }

    private void whatWas() {
        int n = below(3);
        int set = aSet();
        State t = m.s.twin();
        both("row", 4, n);
        for (int h = 0; h < n; h++) {
            t.hour(set & aSet(), m.valleys);
            both("lay", 4, h, t.minute + (below(12) == 0 ? 1 : 0));
        }
        int told = below(3) == 0 ? (1 << m.s.capes.size()) - 1 : set;
        both("slipped", told, 4);
        both("fits", told, 4, below(2) == 0 ? 4 : 3);
        both("odds", set, below(3), Math.min(99, m.s.minute + below(16)));
        both("upper");
        both("lower");
    }

    private void deed() {
        int k = below(12);
        if (k < 7) both("hold", aSet());
        else if (k == 7) both("rope", below(5), 1 + below(9));
        else if (k == 8) both("rise");
        else if (k == 9) both("lots", 1 + below(20), 1 + below(2147483646));
        else if (k == 10) both("price", below(4), below(10));
        else if (k == 11) both("undo", below(m.before.size() + 1));
        both("asked");
    }

    private void wild() {
        String[] call = WILD[below(WILD.length)].split(" ");
        int[] a = new int[Integer.parseInt(call[1])];
        int[] tops = {2, 5, 8, 12, 31, 40, 60};
        for (int k = 0; k < a.length; k++) a[k] = edge(0, tops[below(tops.length)]);
        if ((call[0].equals("best") || call[0].equals("slowest") || call[0].equals("odds")) && below(8) != 0) {
            a[call[0].equals("odds") ? 1 : 0] = edge(0, 2) % 3;
        }
        both(call[0], a);
    }

    private void go() {
        same();
        for (int k = below(20); k > 0; k--) wild();
        for (int step = 0; step < 60; step++) {
            int k = below(20);
            if (step == 0 || k == 0 && below(3) == 0) {
                write(0, yearText());
                both("year", 0);
                same();
            } else if (k <= 2) plans();
            else if (k <= 4) votes();
            else if (k <= 6) whatWas();
            else if (k == 7) broken();
            else if (k == 8) both("keep", below(3));
            else if (k == 9) both("on", below(3));
            else if (k <= 11) for (int w = 0; w < 6; w++) wild();
            else deed();
            if (below(3) == 0) same();
            for (int i = 0; i < m.s.capes.size(); i++) if (below(6) == 0) both("mark", i, 1 + below(5));
        }
        same();
    }

    /** The dearest searches, a few times: three hours with all that there are. */
    private void goDeep() {
        write(0, yearText());
        both("year", 0);
        for (int k = below(6); k > 0; k--) deed();
        both("best", 3, 0);
        both("slowest", 3, 1);
        int all = (1 << m.s.capes.size()) - 1;
        both("odds", all, 3, Math.min(99, m.s.minute + 6 + below(9)));
        State t = m.s.twin();
        both("row", 2, 3);
        for (int h = 0; h < 3; h++) {
            t.hour(aSet(), m.valleys);
            both("lay", 2, h, t.minute);
        }
        both("slipped", all, 2);
        both("fits", all, 2, 3);
        same();
    }

    public static void main(String[] args) {
        int runs = args.length > 1 ? Integer.parseInt(args[1]) : 150;
        for (int run = 1; run <= runs && wrong == 0; run++) {
            ModelTest test = new ModelTest(run);
            if (run % 10 == 0) test.goDeep(); else test.go();
        }
        System.out.println(wrong == 0 ? calls + " calls are as the model has them" : wrong + " answers are not as due");
        if (wrong != 0) System.exit(1);
    }
}
