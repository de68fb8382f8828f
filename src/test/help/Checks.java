/** What the tests that are written out by hand share: checks, and objects brought into a state. */
abstract class Checks {
    static final int BAD = -1, FULL = -2, FINDING = -3, STATE = -4, NONE = -9;
    static final int NOTHING = 1, BEYOND = 2, UNLIKE = 3, NOUGHT = 4, SIZE = 5;
    static final int LEAST = Integer.MIN_VALUE, MOST = Integer.MAX_VALUE;

    static int wrong = 0;
    static int calls = 0;
    /** The promise that is looked at, 0 for the document's terms, and the words of it, if one sentence is. */
    static int promise = 0;
    static String sentence = "";

    /** Two that pull 2 and one that pulls 1, by which the sun is brought to any minute. */
    private static final String TEAM = " g99 g99 c99";
    private static final int[] SETS_BY_PULL = {0, 4, 1, 5, 3, 7};

    interface Call { long on(SunRopes x); }

    static void says(int number, String words) {
        promise = number;
        sentence = words;
    }

    static void due(String call, long got, long want) {
        calls++;
        if (got != want) {
            wrong++;
            String where = promise == 0 ? "terms" : "promise " + promise;
            String said = sentence.isEmpty() ? "" : " (" + sentence + ")";
            System.out.println(where + said + ": " + call + " answered " + got + ", due is " + want);
        }
    }

    /** A call that tells by asked(), too. */
    static void due(SunRopes x, String call, long got, long want, long asked) {
        due(call, got, want);
        due(call + ", asked()", x.asked(), asked);
    }

    /** A refusal by a finding: it is counted once and nothing else changes. */
    static void finds(SunRopes x, String call, Call c, int finding) {
        long digest = x.digest();
        int asked = x.asked(), before = x.findings(finding), all = allFindings(x);
        due(call, c.on(x), FINDING);
        due(call + ", finding()", x.finding(), finding);
        due(call + ", findings()", x.findings(finding), before + 1);
        due(call + ", all findings()", allFindings(x), all + 1);
        due(call + ", digest()", x.digest(), digest);
        due(call + ", asked()", x.asked(), asked);
    }

    static void refuses(SunRopes x, String call, Call c, int refusal) {
        long digest = x.digest();
        int asked = x.asked(), finding = x.finding(), all = allFindings(x);
        long upper = x.upper(), lower = x.lower();
        due(call, c.on(x), refusal);
        due(call + ", digest()", x.digest(), digest);
        due(call + ", asked()", x.asked(), asked);
        due(call + ", finding()", x.finding(), finding);
        due(call + ", findings()", allFindings(x), all);
        due(call + ", upper()", x.upper(), upper);
        due(call + ", lower()", x.lower(), lower);
    }

    static int allFindings(SunRopes x) {
        int all = 0;
        for (int f = 1; f <= 5; f++) all += x.findings(f);
        return all;
    }

    static void write(SunRopes x, int t, String text) {
        x.text(t, text.length());
        for (int p = 0; p < text.length(); p++) if (text.charAt(p) != ' ') x.put(t, p, text.charAt(p));
    }

    static SunRopes yearOf(String text) {
        SunRopes x = new SunRopes();
        write(x, 3, text);
        due("year by '" + text + "' is one", x.year(3) >= 1 ? 1 : 0, 1);
        return x;
    }

    /** Brings the sun on by a number of minutes; the TEAM are the last three capes. */
    static void goOn(SunRopes x, int minutes) {
        int first = x.count(0) - 3;
        int few = minutes % 6;
        if (few > 0) x.hold(SETS_BY_PULL[6 - few] << first);
        holdTimes(x, minutes / 6, 0);
    }

    /** A year of up to two capes, and the TEAM behind them, by which the sun is where it is asked for. */
    static SunRopes atMinute(String capes, String valleys, int minute) {
        SunRopes x = yearOf(capes + TEAM + " " + valleys);
        goOn(x, minute);
        due("the sun's minute", x.sun(), minute);
        return x;
    }

    /** What a call told that is due to answer 1. */
    static int told(SunRopes x, long answer) {
        due("it is answered", answer, 1);
        return x.asked();
    }

    static void lay(SunRopes x, int r, int... places) {
        x.row(r, places.length);
        for (int i = 0; i < places.length; i++) if (places[i] != 0) x.lay(r, i, places[i]);
    }

    static void dueRow(SunRopes x, String call, int r, int... places) {
        for (int i = 0; i < places.length; i++) {
            due(call + ", at " + i, x.at(r, i), 1);
            due(call + ", place " + i, x.asked(), places[i]);
        }
        due(call + ", size", x.at(r, places.length), FINDING);
        due(call + ", size's finding", x.finding(), BEYOND);
    }

    static void dueCape(SunRopes x, int i, int rope, int crew) {
        due(x, "rope of " + i, x.cape(i, 1), 1, rope);
        due(x, "crew of " + i, x.cape(i, 2), 1, crew);
    }

    static void dueChance(SunRopes x, String call, int got, long upper, long lower) {
        due(call, got, 1);
        due(call + ", upper()", x.upper(), upper);
        due(call + ", lower()", x.lower(), lower);
    }

    static void holdTimes(SunRopes x, int times, int set) {
        for (int k = 0; k < times; k++) x.hold(set);
    }

    static void tellEnd() {
        System.out.println(wrong == 0 ? calls + " answers are as due" : wrong + " answers are not as due");
        if (wrong != 0) System.exit(1);
    }
}
