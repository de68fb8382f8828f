/**
 * The document's terms, sentence by sentence: what they name as a boundary (too small, too large, empty,
 * full, the first of alike ones, the last that still goes), each with a test of its own. The promises'
 * own boundaries are in PromiseEdgeTest; which numbers each call refuses, and in which order, in RefusalTest.
 */
public final class TermsEdgeTest extends Checks {
    private static final String LETTERS = "chsnlg";

    private static String blanks(int n) { return " ".repeat(n); }

    // ---- terms: answers

    private static void findingsOfEachKind() {
        says(0, "NOTHING (a ROW, a TEXT, a kept YEAR that is missing)");
        SunRopes x = new SunRopes();
        finds(x, "at(0, 0)", o -> o.at(0, 0), NOTHING);
        finds(x, "put(0, 0, 0)", o -> o.put(0, 0, 0), NOTHING);
        finds(x, "on(0)", o -> o.on(0), NOTHING);
        says(0, "BEYOND (a place that there is not)");
        x.row(0, 1);
        x.text(0, 1);
        finds(x, "at(0, 1)", o -> o.at(0, 1), BEYOND);
        finds(x, "put(0, 1, 0)", o -> o.put(0, 1, 0), BEYOND);
        finds(x, "at(0, -1)", o -> o.at(0, -1), BEYOND);
        finds(x, "put(0, -1, 0)", o -> o.put(0, -1, 0), BEYOND);
        says(0, "UNLIKE (a CAPE of another KIND; a number that is none)");
        SunRopes y = yearOf("c11");
        finds(y, "mark(0, 1)", o -> o.mark(0, 1), UNLIKE);
        lay(y, 0, 2);
        finds(y, "run of a set that is none", o -> o.run(0), UNLIKE);
        says(0, "NOUGHT (shared among none)");
        x.row(0, 0);
        finds(x, "mean of none", o -> o.mean(0), NOUGHT);
        says(0, "SIZE (fewer than none; too many)");
        finds(x, "row(0, -1)", o -> o.row(0, -1), SIZE);
        y.row(0, 13);
        finds(y, "run of 13", o -> o.run(0), SIZE);
    }

    private static void chancesInLowestTerms() {
        says(0, "Chances are told in lowest terms, the lower number above 0 (0 by 1)");
        SunRopes x = yearOf("c99 c99 c99");
        dueChance(x, "0 of 8", x.odds(7, 1, 7), 0, 1);
        dueChance(x, "1 of 8", x.odds(7, 1, 6), 1, 8);
        dueChance(x, "4 of 8", x.odds(7, 1, 5), 1, 2);
        dueChance(x, "7 of 8", x.odds(7, 1, 4), 7, 8);
        dueChance(x, "8 of 8", x.odds(7, 1, 3), 1, 1);
        dueChance(x, "0 of 1", x.odds(0, 0, 1), 0, 1);
        dueChance(x, "1 of 1", x.odds(0, 0, 0), 1, 1);
        x = yearOf("c99 c99 c99 c99 c99");
        // Who never all slip: 31 of 32 an hour.
        dueChance(x, "31 of 32, thrice", x.odds(31, 3, 18), 1, 32768);
        dueChance(x, "1 less than all", x.odds(31, 3, 4), 32767, 32768);
    }

    // ---- terms: rows, texts, years

    private static void rowsAndTexts() {
        says(0, "ROWS 0 .. 5 are rows of 0 to 40 ints");
        SunRopes x = new SunRopes();
        for (int r = 0; r <= 5; r++) due("row(" + r + ", 40)", x.row(r, 40), 40);
        for (int r = 0; r <= 5; r++) {
            x.lay(r, 0, LEAST + r);
            x.lay(r, 39, MOST - r);
        }
        for (int r = 0; r <= 5; r++) {
            due("least in row " + r, told(x, x.at(r, 0)), LEAST + r);
            due("most in row " + r, told(x, x.at(r, 39)), MOST - r);
            due("between in row " + r, told(x, x.at(r, 1)), 0);
            int row = r;
            finds(x, "place 40 of row " + r, o -> o.at(row, 40), BEYOND);
            due("row(" + r + ", 0)", x.row(r, 0), 0);
            finds(x, "place 0 of none in row " + r, o -> o.at(row, 0), BEYOND);
        }
        says(0, "TEXTS 0 .. 3 rows of 0 to 60 bytes");
        x = new SunRopes();
        for (int t = 0; t <= 3; t++) due("text(" + t + ", 60)", x.text(t, 60), 60);
        for (int t = 0; t <= 3; t++) x.put(t, 59, t);
        for (int t = 0; t <= 3; t++) {
            due("the last byte of text " + t, x.put(t, 59, 0), 1000 + t);
            due("the first byte of text " + t, x.put(t, 0, 0), 1032);
            int text = t;
            finds(x, "byte 60 of text " + t, o -> o.put(text, 60, 0), BEYOND);
            due("text(" + t + ", 0)", x.text(t, 0), 0);
            finds(x, "byte 0 of none in text " + t, o -> o.put(text, 0, 0), BEYOND);
        }
        says(0, "or missing (at first)");
        x = new SunRopes();
        for (int r = 0; r <= 5; r++) {
            int row = r;
            finds(x, "row " + r, o -> o.at(row, 0), NOTHING);
        }
        for (int t = 0; t <= 3; t++) {
            int text = t;
            finds(x, "text " + t, o -> o.put(text, 0, 0), NOTHING);
        }
    }

    private static void dueFault(String text, int fault) {
        SunRopes x = new SunRopes();
        write(x, 0, text);
        due("fault of '" + text + "'", x.fault(0), fault);
        if (fault == NONE) {
            due("year by '" + text + "' has capes", x.year(0) >= 1 ? 1 : 0, 1);
        } else {
            refuses(x, "year by '" + text + "'", o -> o.year(0), STATE);
        }
    }

    private static void blanksInTexts() {
        says(0, "blanks ahead, between, behind as many as wanted");
        dueFault(blanks(57) + "c11", NONE);
        dueFault("c11" + blanks(57), NONE);
        dueFault("c11" + blanks(54) + "h11", NONE);
        dueFault("c11" + blanks(53) + "v001", NONE);
        dueFault("c11v001" + blanks(49) + "d001", NONE);
        dueFault(blanks(29) + "c11h11s11n11l11v001d001v001d001", NONE);
        dueFault("  c11  c11  v001  v001  ", NONE);
        says(0, "blanks: none within items");
        String[] items = {"c11", "h11", "s11", "n11", "l11", "g11", "c11v001", "c11d001"};
        for (String item : items) {
            for (int p = 1; p < item.length(); p++) {
                boolean between = p == 3;
                dueFault(item.substring(0, p) + " " + item.substring(p), between ? NONE : p);
            }
        }
        dueFault("c11\tc11", 3);
        dueFault("c11\nc11", 3);
        says(0, "a TEXT's size, if there are blanks alone");
        for (int n = 0; n <= 60; n++) dueFault(blanks(n), n);
    }

    /** What the first byte that follows a text may be: letters that begin an item make it end too early. */
    private static void dueNext(String ahead, String begins) {
        SunRopes x = new SunRopes();
        int place = ahead.length();
        write(x, 0, ahead + " ");
        for (int v = 0; v <= 255; v++) {
            x.put(0, place, v);
            int fault = begins.indexOf(v) >= 0 ? place + 1 : place;
            if (v == ' ') fault = ahead.isBlank() ? place + 1 : NONE;
            due("fault of '" + ahead + "' and " + v, x.fault(0), fault);
        }
    }

    private static void lettersInTexts() {
        says(0, "a letter that is none such; a VALLEY ahead of all CAPES: its place");
        dueNext("", LETTERS);
        dueNext("   ", LETTERS);
        says(0, "a letter that is none such, behind a CAPE");
        dueNext("c11", LETTERS + "vd");
        dueNext("g11 l11 n11 ", LETTERS + "vd");
        says(0, "a CAPE behind a VALLEY: its place");
        dueNext("c11v001", "vd");
        dueNext("c11v001d001v001", "vd");
        for (char letter : LETTERS.toCharArray()) dueFault("c11 v001 " + letter + "11", 9);
        says(0, "CAPES (1 to 5); a sixth CAPE: its place");
        dueNext("c11h11s11n11", LETTERS + "vd");
        dueNext("c11h11s11n11l11", "vd");
        dueFault("c11", NONE);
        dueFault("c11h11s11n11l11", NONE);
        for (char letter : LETTERS.toCharArray()) dueFault("c11h11s11n11l11 " + letter + "11", 16);
        says(0, "VALLEYS (4 at most); a fifth VALLEY: its place");
        dueNext("c11v001d001v001d001", "");
        dueFault("c11v001d001v001d001", NONE);
        dueFault("c11v001d001v001d001v001", 19);
        dueFault("c11v001d001v001d001 d001", 20);
        says(0, "a VALLEY ahead of all CAPES: its place");
        dueFault("v001c11", 0);
        dueFault("  d001 c11", 2);
        says(0, "the first place at which it can't go on so");
        dueFault("x11 y11", 0);
        dueFault("c1x v99", 2);
        dueFault("c11 v80 x", 5);
        dueFault("v8", 0);
    }

    private static void figuresInTexts() {
        says(0, "the ROPE (0 .. 9), the CREW (0 .. 9), one figure each");
        SunRopes x = new SunRopes();
        for (char letter : LETTERS.toCharArray()) {
            x = new SunRopes();
            x.text(0, 3);
            x.put(0, 0, letter);
            for (int v = 0; v <= 255; v++) {
                boolean figure = v >= '0' && v <= '9';
                x.put(0, 1, v);
                x.put(0, 2, '0');
                due("a rope of " + v, x.fault(0), figure ? NONE : 1);
                x.put(0, 1, '0');
                x.put(0, 2, v);
                due("a crew of " + v, x.fault(0), figure ? NONE : 2);
            }
        }
        for (int f = 0; f <= 9; f++) {
            x = yearOf("c" + f + (9 - f) + " g" + (9 - f) + f);
            dueCape(x, 0, f, 9 - f);
            dueCape(x, 1, 9 - f, f);
        }
        dueFault("c111", 3);
        says(0, "from which PLACE, to which PLACE (figures 0 .. 7, no less), the WORTH (1 .. 9)");
        for (int from = 0; from <= 9; from++) {
            for (int to = 0; to <= 9; to++) {
                for (int worth = 0; worth <= 9; worth++) dueValley(from, to, worth, (from + to + worth) % 2 == 0);
            }
        }
        for (int k = 1; k <= 3; k++) {
            x = new SunRopes();
            write(x, 0, "c11v015");
            for (int v = 0; v <= 255; v++) {
                int least = k == 3 ? '1' : '0', most = k == 1 ? '1' : k == 2 ? '7' : '9';
                x.put(0, 3 + k, v);
                boolean toIsLess = k == 1 && v >= '2' && v <= '7';
                int fault = toIsLess ? 5 : v >= least && v <= most ? NONE : 3 + k;
                due("sign " + k + " of a valley being " + v, x.fault(0), fault);
            }
        }
    }

    private static void dueValley(int from, int to, int worth, boolean light) {
        String text = "c11 " + (light ? "v" : "d") + from + to + worth;
        int fault = NONE;
        if (worth == 0) fault = 7;
        if (to > 7 || to < from) fault = 6;
        if (from > 7) fault = 5;
        SunRopes x = new SunRopes();
        write(x, 0, text);
        due("fault of '" + text + "'", x.fault(0), fault);
        if (fault != NONE) return;
        due("year by '" + text + "'", x.year(0), 1);
        int[] facts = {light ? 1 : 0, from, to, worth, 0};
        for (int what = 0; what <= 4; what++) due(x, "valley(0, " + what + ")", x.valley(0, what), 1, facts[what]);
    }

    private static void endsOfTexts() {
        says(0, "the TEXT's size, if its end comes too early");
        String year = "c11 g90 v015 d337";
        for (int n = 0; n <= year.length(); n++) {
            boolean whole = n == 3 || n == 4 || n == 7 || n == 8 || n == 12 || n == 13 || n == 17;
            dueFault(year.substring(0, n), whole ? NONE : n);
        }
        dueFault(blanks(59) + "c", 60);
        dueFault(blanks(58) + "c1", 60);
        dueFault("c11" + blanks(56) + "v", 60);
        dueFault("c11" + blanks(55) + "v0", 60);
        dueFault("c11" + blanks(54) + "v00", 60);
        says(0, "a shorter TEXT is read to its own end alone");
        SunRopes x = new SunRopes();
        write(x, 0, "c11v015");
        write(x, 0, "c11v0");
        due("fault", x.fault(0), 5);
        write(x, 0, "c1");
        due("fault", x.fault(0), 2);
    }

    private static void kinds() {
        says(0, "KINDS of CAPES and letters");
        int[][] is = {{}, {1}, {2}, {3}, {3, 4}, {2, 5}};
        for (int kind = 0; kind <= 5; kind++) {
            SunRopes x = yearOf(LETTERS.charAt(kind) + "99");
            due(x, "the kind by " + LETTERS.charAt(kind), x.cape(0, 0), 1, kind);
            for (int other = 1; other <= 5; other++) {
                boolean isOne = false;
                for (int k : is[kind]) isOne |= k == other;
                int asked = other;
                if (isOne) due("a " + kind + " is a " + other, x.mark(0, other) >= 0 ? 1 : 0, 1);
                else finds(x, "a " + kind + " is no " + other, o -> o.mark(0, asked), UNLIKE);
            }
        }
    }

    // ---- terms: the sun

    private static void placesOfTheSun() {
        says(0, "its PLACE is the MINUTE by 6, cut (0 .. 7)");
        for (int minute = 0; minute <= 47; minute++) {
            int place = minute / 6;
            SunRopes x = atMinute("", "v" + place + place + "1 d" + place + place + "1", minute);
            int lit = told(x, x.valley(0, 4)), dark = told(x, x.valley(1, 4));
            x.hold(0);
            due("light at its place, minute " + minute, told(x, x.valley(0, 4)) - lit, 1);
            due("dark at its place, minute " + minute, told(x, x.valley(1, 4)) - dark, 0);
        }
        says(0, "at MINUTE 48 or more it is DOWN");
        for (int minute = 42; minute <= 53; minute++) {
            SunRopes x = atMinute("", "", minute > 47 ? minute - 6 : minute);
            if (minute > 47) x.hold(0);
            due("the sun's minute", x.sun(), minute);
            due("it is down at " + minute, x.count(4), minute >= 48 ? 1 : 0);
            due("nobody pulls at " + minute, told(x, x.cape(0, 3)), minute >= 48 ? 0 : 2);
        }
    }

    private static void whoCanPull() {
        says(0, "A CAPE CAN PULL, if its ROPE and its CREW are 1 at least; it PULLS 1, a STRONG (GIANT, too) 2");
        int[] pulls = {1, 1, 2, 1, 1, 2};
        for (int kind = 0; kind <= 5; kind++) {
            for (int rope = 0; rope <= 2; rope++) {
                for (int crew = 0; crew <= 2; crew++) {
                    SunRopes x = yearOf("" + LETTERS.charAt(kind) + rope + crew);
                    int pull = rope >= 1 && crew >= 1 ? pulls[kind] : 0;
                    String who = "kind " + kind + " with " + rope + ", " + crew;
                    due(x, who + " would pull", x.cape(0, 3), 1, pull);
                    due(who + " counts", x.count(3), pull > 0 ? 1 : 0);
                    due(x, who + " pulls", x.hold(1), 6 - pull + (pull > 0 && rope == 1 ? 2 : 0), pull > 0 ? 1 : 0);
                }
            }
        }
        says(0, "a NOON (a LAZY, too) only while THE SUN is at a MINUTE below 24");
        int[] minutes = {0, 22, 23, 24, 25, 29, 30, 47};
        for (int minute : minutes) {
            SunRopes x = atMinute("n99 l99", "", minute);
            int pull = minute < 24 ? 1 : 0;
            due("a noon at " + minute, told(x, x.cape(0, 3)), pull);
            due("a lazy at " + minute, told(x, x.cape(1, 3)), pull);
            due("a plain one at " + minute, told(x, x.cape(4, 3)), 1);
            due(x, "those who pulled at " + minute, x.hold(16 | 3), 6 - 1 - 2 * pull, minute < 24 ? 19 : 16);
        }
    }

    private static void howFarItGoes() {
        says(0, "THE SUN goes 6 MINUTES on, less all that they PULL, 1 at least; what it goes less than 6 is OWED");
        String[] years = {"c00", "c99", "g99", "c99 g99", "g99 g99", "g99 g99 c99", "g99 g99 g99", "g99 g99 g99 c99",
            "g99 g99 g99 s99", "g99 g99 g99 g99 c99", "g99 g99 s99 s99 s99"};
        int[] went = {6, 5, 4, 3, 2, 1, 1, 1, 1, 1, 1};
        for (int k = 0; k < years.length; k++) {
            SunRopes x = yearOf(years[k]);
            int all = (1 << x.count(0)) - 1;
            due(years[k] + " all hold", x.hold(all), went[k]);
            due(x, years[k] + ", owed", x.sun(), went[k], 6 - went[k]);
        }
        says(0, "whose ROPE is 0 then LURCHES: 2 MINUTES on for each of these; OWED: LURCHES aside");
        String[] lurching = {"c19", "c19 c19", "c19 c19 c19", "c19 c19 c19 c19", "c19 c19 c19 c19 c19", "g19 g19 g19",
            "s19 c29 h19", "c29 c29"};
        int[] lurches = {1, 2, 3, 4, 5, 3, 2, 0};
        int[] slow = {5, 4, 3, 2, 1, 1, 2, 4};
        for (int k = 0; k < lurching.length; k++) {
            SunRopes x = yearOf(lurching[k]);
            int all = (1 << x.count(0)) - 1;
            due(x, lurching[k] + " all hold", x.hold(all), slow[k] + 2 * lurches[k], all);
            due(x, lurching[k] + ", owed", x.sun(), slow[k] + 2 * lurches[k], 6 - slow[k]);
        }
        says(0, "at MINUTE 47 the last hour goes on beyond 48, the LURCHES, too");
        SunRopes x = atMinute("c19", "", 47);
        due(x, "the last hour", x.hold(1), 7, 1);
        due("it is at", x.sun(), 54);
    }

    private static void ropesAndCrews() {
        says(0, "its ROPE 1 less (a HAIR's only if THE SUN was at an even PLACE ahead of it)");
        for (int place = 0; place <= 7; place++) {
            SunRopes x = atMinute("h19 c19", "", 6 * place);
            boolean even = place % 2 == 0;
            due(x, "a hair's last rope at place " + place, x.hold(1), even ? 7 : 5, 1);
            dueCape(x, 0, even ? 0 : 1, 8);
            dueCape(x, 1, 1, 9);
            SunRopes y = atMinute("h99 c99", "", 6 * place + 5);
            y.hold(3);
            due("a hair at minute " + (6 * place + 5), told(y, y.cape(0, 1)), even ? 8 : 9);
            due("a plain one there", told(y, y.cape(1, 1)), 8);
        }
        says(0, "its CREW 1 less (a GIANT's not)");
        SunRopes x = yearOf("c91 h91 s91 l91 g91");
        x.hold(31);
        for (int i = 0; i <= 3; i++) dueCape(x, i, 8, 0);
        dueCape(x, 4, 8, 1);
        x = yearOf("n91 g99");
        x.hold(3);
        dueCape(x, 0, 8, 0);
        dueCape(x, 1, 8, 9);
        says(0, "All others that there are have their CREWS 1 more, 9 at most (a LAZY 2 more)");
        for (int crew = 0; crew <= 9; crew++) {
            for (char letter : LETTERS.toCharArray()) {
                SunRopes y = yearOf("" + letter + "9" + crew + " c99");
                y.hold(2);
                dueCape(y, 0, 9, Math.min(9, crew + (letter == 'l' ? 2 : 1)));
                dueCape(y, 1, 8, 8);
            }
        }
        says(0, "those of them that CAN PULL do: who is told to HOLD and can't rests as all others");
        x = yearOf("c90 c03 l90 g05");
        due(x, "none of them can", x.hold(15), 6, 0);
        dueCape(x, 0, 9, 1);
        dueCape(x, 1, 0, 4);
        dueCape(x, 2, 9, 2);
        dueCape(x, 3, 0, 6);
    }

    private static void gainsOfValleys() {
        says(0, "a PLACE from .. to, both, too (one that wants dark: at another one)");
        for (int place = 0; place <= 7; place++) {
            SunRopes x = atMinute("", "v245 d245 v072 d073", 6 * place);
            int[] ahead = new int[4];
            for (int v = 0; v < 4; v++) ahead[v] = told(x, x.valley(v, 4));
            x.hold(0);
            boolean inside = place >= 2 && place <= 4;
            int[] gains = {inside ? 5 : 0, inside ? 0 : 5, 2, 0};
            for (int v = 0; v < 4; v++) due("valley " + v + " at place " + place, told(x, x.valley(v, 4)) - ahead[v], gains[v]);
        }
        says(0, "if THE SUN is, ahead of it, at a PLACE");
        SunRopes x = atMinute("", "v001 v112", 5);
        due(x, "gained at 0", x.gained(), 1, 0);
        x.hold(0);
        due(x, "gained at 5", x.gained(), 2, 0);
        x.hold(0);
        due(x, "gained at 11", x.gained(), 4, 0);
        says(0, "none when it is DOWN (who wants dark has it then)");
        x = yearOf("c99 v079 d071 d003 v779");
        holdTimes(x, 8, 0);
        int[] ahead = new int[4];
        for (int v = 0; v < 4; v++) ahead[v] = told(x, x.valley(v, 4));
        due("hold, it being down", x.hold(1), 0);
        int[] gains = {0, 1, 3, 0};
        for (int v = 0; v < 4; v++) due("valley " + v + " by night", told(x, x.valley(v, 4)) - ahead[v], gains[v]);
        says(0, "AN HOUR while it is DOWN: nothing else happens, but that CREWS rest (nobody PULLS)");
        x = yearOf("c30 l30 g30 h30 n38");
        for (int k = 0; k < 12 && x.count(4) == 0; k++) x.hold(31);
        due("it is down", x.count(4), 1);
        int minute = x.sun(), owed = x.asked();
        due("some is owed", owed > 0 ? 1 : 0, 1);
        int[] ropes = new int[5], crews = new int[5];
        for (int i = 0; i < 5; i++) {
            ropes[i] = told(x, x.cape(i, 1));
            crews[i] = told(x, x.cape(i, 2));
        }
        due(x, "hold, it being down", x.hold(31), 0, 0);
        due(x, "the sun stays, nothing more is owed", x.sun(), minute, owed);
        for (int i = 0; i < 5; i++) dueCape(x, i, ropes[i], Math.min(9, crews[i] + (i == 1 ? 2 : 1)));
        x = yearOf("c10 l10 g10 h10 n18");
        holdTimes(x, 8, 0);
        due(x, "the last ropes by night", x.hold(31), 0, 0);
        for (int i = 0; i < 5; i++) dueCape(x, i, 1, 9);
    }

    private static void orderOfPlans() {
        says(0, "PLANS go by their first numbers, then the second ones, ..");
        SunRopes x = yearOf("c99 c99 c99 c99 c99");
        for (int n = 0; n <= 3; n++) {
            due("best without valleys", x.best(n, 0), 0);
            dueRow(x, "the first plan of " + n, 0, new int[n]);
        }
        x = yearOf("c11 c90");
        // One pulls now without a lurch by none (its rope is 1); the other one has to rest ahead.
        due("slowest(2)", x.slowest(2, 0), 11);
        dueRow(x, "slowest(2)", 0, 0, 2);
        x = yearOf("s91 s91");
        // One after the other or both at once: 2 + 6, 4 + 4; of these that come to 8 the first is 0, 3.
        due("slowest(2) of alike ones", x.slowest(2, 0), 8);
        dueRow(x, "slowest(2) of alike ones", 0, 0, 3);
        due("slowest(3) of alike ones", x.slowest(3, 0), 10);
        dueRow(x, "slowest(3) of alike ones", 0, 0, 3, 3);
    }

    public static void main(String[] args) {
        findingsOfEachKind();
        chancesInLowestTerms();
        rowsAndTexts();
        blanksInTexts();
        lettersInTexts();
        figuresInTexts();
        endsOfTexts();
        kinds();
        placesOfTheSun();
        whoCanPull();
        howFarItGoes();
        ropesAndCrews();
        gainsOfValleys();
        orderOfPlans();
        tellEnd();
    }
}
