/**
 * The promises, sentence by sentence: what they name as a boundary (too small, too large, empty, full,
 * a wrap-around, none, the first of alike ones), each with a test of its own. The terms' boundaries are
 * in TermsEdgeTest; which numbers each call refuses, and in which order, in RefusalTest.
 */
public final class PromiseEdgeTest extends Checks {
    // ---- 1 rows, texts, years

    private static void newObject() {
        says(1, "No ROWS, TEXTS, CAPES, VALLEYS");
        SunRopes x = new SunRopes();
        for (int what = 0; what <= 8; what++) due("count(" + what + ")", x.count(what), 0);
        due("asked()", x.asked(), 0);
        due("finding()", x.finding(), 0);
        due("findings", allFindings(x), 0);
        refuses(x, "cape(0, 0)", o -> o.cape(0, 0), BAD);
        refuses(x, "valley(0, 0)", o -> o.valley(0, 0), BAD);
        for (int r = 0; r <= 5; r++) {
            int row = r;
            finds(x, "row " + r, o -> o.tear(row), NOTHING);
        }
        for (int t = 0; t <= 3; t++) {
            int text = t;
            finds(x, "text " + t, o -> o.fault(text), NOTHING);
        }
    }

    private static void rows() {
        says(2, "A ROW is there with n ints 0: n");
        SunRopes x = new SunRopes();
        int[] sizes = {0, 1, 39, 40};
        for (int n : sizes) {
            due("row(3, " + n + ")", x.row(3, n), n);
            for (int i = 0; i < n; i++) x.lay(3, i, i - 7);
            due("row(3, " + n + ") anew", x.row(3, n), n);
            for (int i = 0; i < n; i++) due("place " + i, told(x, x.at(3, i)), 0);
            due("it is there", x.count(6), 1);
        }
        lay(x, 3, 1, 2, 3, 4);
        due("a shorter one", x.row(3, 2), 2);
        due("a longer one", x.row(3, 4), 4);
        dueRow(x, "a longer one", 3, 0, 0, 0, 0);
        says(2, "BAD: also n above 40; SIZE: below 0");
        lay(x, 3, 5, 6);
        refuses(x, "row(3, 41)", o -> o.row(3, 41), BAD);
        refuses(x, "row(3, most)", o -> o.row(3, MOST), BAD);
        finds(x, "row(3, -1)", o -> o.row(3, -1), SIZE);
        finds(x, "row(3, least)", o -> o.row(3, LEAST), SIZE);
        dueRow(x, "the row stays", 3, 5, 6);

        says(3, "Place i of a ROW is v: what it was, told by asked()");
        int[] values = {0, 1, -1, MOST, LEAST, 0};
        for (int k = 1; k < values.length; k++) {
            due(x, "the first place", x.lay(3, 0, values[k]), 1, k == 1 ? 5 : values[k - 1]);
            due(x, "the last place", x.lay(3, 1, values[k]), 1, k == 1 ? 6 : values[k - 1]);
        }
        says(3, "BEYOND");
        finds(x, "lay(3, 2, 1)", o -> o.lay(3, 2, 1), BEYOND);
        finds(x, "lay(3, -1, 1)", o -> o.lay(3, -1, 1), BEYOND);
        x.row(4, 0);
        finds(x, "lay(4, 0, 1) of none", o -> o.lay(4, 0, 1), BEYOND);
        finds(x, "lay(5, 0, 1)", o -> o.lay(5, 0, 1), NOTHING);

        says(4, "Place i of a ROW, told by asked()");
        lay(x, 3, LEAST, 0, MOST);
        due(x, "the first place", x.at(3, 0), 1, LEAST);
        due(x, "the last place", x.at(3, 2), 1, MOST);
        due(x, "a place of 0", x.at(3, 1), 1, 0);
        says(4, "BEYOND");
        finds(x, "at(3, 3)", o -> o.at(3, 3), BEYOND);
        finds(x, "at(3, -1)", o -> o.at(3, -1), BEYOND);
        finds(x, "at(4, 0) of none", o -> o.at(4, 0), BEYOND);

        says(5, "A ROW is missing: 1");
        due("tear of three", x.tear(3), 1);
        due("tear of none", x.tear(4), 1);
        due("rows", x.count(6), 0);
        says(5, "NOTHING");
        finds(x, "tear(3) again", o -> o.tear(3), NOTHING);
        finds(x, "tear(4) again", o -> o.tear(4), NOTHING);
        lay(x, 0, 1);
        lay(x, 1, 2);
        x.tear(0);
        dueRow(x, "another row stays", 1, 2);
    }

    private static void laidUp(SunRopes x, int r, int n) {
        x.row(r, n);
        for (int i = 0; i < n; i++) x.lay(r, i, 100 + i);
    }

    private static void copies() {
        says(6, "n places of a ROW, from one on, come to those of another one from one on");
        SunRopes x = new SunRopes();
        laidUp(x, 0, 40);
        x.row(1, 40);
        due("all 40", x.copy(0, 0, 1, 0, 40), 1);
        for (int i = 0; i < 40; i++) due("place " + i, told(x, x.at(1, i)), 100 + i);
        x.row(1, 3);
        due("the last one to the last one", x.copy(0, 39, 1, 2, 1), 1);
        due("the first one to the first one", x.copy(0, 0, 1, 0, 1), 1);
        dueRow(x, "two places", 1, 100, 0, 139);
        says(6, "n places: none");
        long digest = x.digest();
        int[][] none = {{0, 0}, {40, 0}, {0, 3}, {40, 3}};
        for (int[] n : none) {
            due("none from " + n[0] + " to " + n[1], x.copy(0, n[0], 1, n[1], 0), 1);
        }
        due("nothing came", x.digest(), digest);
        x.row(2, 0);
        due("none of a row of none", x.copy(2, 0, 2, 0, 0), 1);
        says(6, "perhaps itself, as if taken ahead");
        lay(x, 3, 1, 2, 3, 4, 5);
        due("one place on", x.copy(3, 0, 3, 1, 4), 1);
        dueRow(x, "one place on", 3, 1, 1, 2, 3, 4);
        lay(x, 3, 1, 2, 3, 4, 5);
        due("one place back", x.copy(3, 1, 3, 0, 4), 1);
        dueRow(x, "one place back", 3, 2, 3, 4, 5, 5);
        lay(x, 3, 1, 2, 3);
        due("onto itself", x.copy(3, 0, 3, 0, 3), 1);
        dueRow(x, "onto itself", 3, 1, 2, 3);
    }

    private static void copiesRefused() {
        says(6, "BAD; SIZE: n below 0; NOTHING: either; BEYOND: not so many there");
        SunRopes x = new SunRopes();
        lay(x, 0, 1, 2, 3);
        lay(x, 1, 4, 5);
        refuses(x, "BAD ahead of SIZE", o -> o.copy(6, 0, 0, 0, -1), BAD);
        refuses(x, "BAD ahead of SIZE, the other row", o -> o.copy(0, 0, 6, 0, -1), BAD);
        finds(x, "SIZE ahead of NOTHING", o -> o.copy(5, 0, 0, 0, -1), SIZE);
        finds(x, "SIZE ahead of BEYOND", o -> o.copy(0, 9, 1, 9, LEAST), SIZE);
        finds(x, "the first missing", o -> o.copy(5, 9, 0, 0, 1), NOTHING);
        finds(x, "the other missing", o -> o.copy(0, 9, 5, 0, 1), NOTHING);
        finds(x, "both missing", o -> o.copy(4, 0, 5, 0, 0), NOTHING);
        finds(x, "one more than there are", o -> o.copy(0, 2, 1, 0, 2), BEYOND);
        finds(x, "one more than has room", o -> o.copy(0, 0, 1, 1, 2), BEYOND);
        finds(x, "the first below 0", o -> o.copy(0, -1, 1, 0, 1), BEYOND);
        finds(x, "the other below 0", o -> o.copy(0, 0, 1, -1, 1), BEYOND);
        finds(x, "none from beyond the end", o -> o.copy(0, 4, 1, 0, 0), BEYOND);
        finds(x, "none to beyond the end", o -> o.copy(0, 0, 1, 3, 0), BEYOND);
        finds(x, "place and number beyond an int together", o -> o.copy(0, MOST, 1, 0, MOST), BEYOND);
        finds(x, "number beyond an int with place 1", o -> o.copy(0, 1, 1, 1, MOST), BEYOND);
        finds(x, "the other's place beyond an int", o -> o.copy(0, 0, 1, MOST, 1), BEYOND);
        finds(x, "the least place", o -> o.copy(0, LEAST, 1, LEAST, 1), BEYOND);
        dueRow(x, "the rows stay", 1, 4, 5);
    }

    private static void means() {
        says(7, "The mean of a ROW's ints, cut, told by asked()");
        int[][] rows = {{5}, {-5}, {0}, {1, 0}, {-1, 0}, {1, 2}, {-1, -2}, {2, 3, 3}, {-2, -3, -3}, {MOST}, {LEAST},
            {MOST, MOST}, {LEAST, LEAST}, {MOST, LEAST}, {MOST, 1}, {LEAST, -1}, {MOST, MOST, MOST, LEAST}};
        int[] means = {5, -5, 0, 0, 0, 1, -1, 2, -2, MOST, LEAST, MOST, LEAST, 0, 1 << 30, -(1 << 30), 1073741823};
        SunRopes x = new SunRopes();
        for (int k = 0; k < rows.length; k++) {
            lay(x, 0, rows[k]);
            due(x, "mean " + k, x.mean(0), 1, means[k]);
        }
        int[] most = new int[40], least = new int[40];
        java.util.Arrays.fill(most, MOST);
        java.util.Arrays.fill(least, LEAST);
        lay(x, 0, most);
        due(x, "mean of 40 of the most", x.mean(0), 1, MOST);
        lay(x, 0, least);
        due(x, "mean of 40 of the least", x.mean(0), 1, LEAST);
        says(7, "NOUGHT; NOTHING");
        x.row(0, 0);
        finds(x, "mean of none", o -> o.mean(0), NOUGHT);
        finds(x, "mean of a missing row", o -> o.mean(1), NOTHING);
    }

    private static void texts() {
        says(8, "A TEXT is there with n blanks: n");
        SunRopes x = new SunRopes();
        int[] sizes = {0, 1, 59, 60};
        for (int n : sizes) {
            due("text(2, " + n + ")", x.text(2, n), n);
            for (int i = 0; i < n; i++) due("byte " + i, x.put(2, i, 65), 1032);
            due("text(2, " + n + ") anew", x.text(2, n), n);
            due("it is there", x.count(7), 1);
        }
        for (int i = 0; i < 60; i++) due("byte " + i, x.put(2, i, 32), 1032);
        says(8, "BAD: also n above 60; SIZE: below 0");
        refuses(x, "text(2, 61)", o -> o.text(2, 61), BAD);
        refuses(x, "text(2, most)", o -> o.text(2, MOST), BAD);
        finds(x, "text(2, -1)", o -> o.text(2, -1), SIZE);
        finds(x, "text(2, least)", o -> o.text(2, LEAST), SIZE);
        says(9, "Byte i of a TEXT is v, cut to a byte: what it was, and 1000 more");
        x = new SunRopes();
        x.text(0, 1);
        int was = 32;
        for (int v = -129; v <= 257; v += v < -120 || v > 110 ? 1 : 5) {
            due("put of " + v, x.put(0, 0, v), 1000 + was);
            was = (v + 128 + 256) % 256 - 128;
        }
        int[] wild = {MOST, LEAST, 0x12345678, 0xABCDEF80, 65536, -65536, 65535};
        int[] cut = {-1, 0, 0x78, -128, 0, 0, -1};
        for (int k = 0; k < wild.length; k++) {
            x.put(0, 0, wild[k]);
            due("what was cut from " + wild[k], x.put(0, 0, 0), 1000 + cut[k]);
        }
        says(9, "NOTHING; BEYOND");
        finds(x, "a missing text", o -> o.put(1, 0, 0), NOTHING);
        finds(x, "byte 1 of one", o -> o.put(0, 1, 0), BEYOND);
        finds(x, "byte -1", o -> o.put(0, -1, 0), BEYOND);
        finds(x, "byte 60 of one", o -> o.put(0, 60, 0), BEYOND);
        x.text(1, 0);
        finds(x, "byte 0 of none", o -> o.put(1, 0, 0), BEYOND);
    }

    private static void faults() {
        says(10, "A FAULT of a TEXT; NONE: there is none");
        SunRopes x = yearOf("c25 v019");
        x.hold(1);
        x.keep(0);
        write(x, 0, "c1x");
        write(x, 1, "s11 h22 d013");
        long digest = x.digest();
        due("a fault", x.fault(0), 2);
        due("no fault", x.fault(1), NONE);
        due("the year is not touched by it", x.digest(), digest);
        due("nor told by asked()", x.asked(), 1);
        x.text(2, 0);
        due("a fault at once", x.fault(2), 0);
        finds(new SunRopes(), "a missing text", o -> o.fault(0), NOTHING);
    }

    private static void years() {
        says(11, "A YEAR by a TEXT (anew: THE SUN at MINUTE 0, nothing OWED, gained; kept YEARS go)");
        SunRopes x = yearOf("c99 c99 g99 g99 s99 v079 v079 d079 v005");
        for (int k = 0; k <= 2; k++) {
            x.hold(31);
            x.keep(k);
        }
        write(x, 0, "h12 d011");
        lay(x, 0, 4, 5);
        finds(x, "a finding", o -> o.tear(5), NOTHING);
        due("how many capes", x.year(0), 1);
        due(x, "sun()", x.sun(), 0, 0);
        due(x, "gained()", x.gained(), 0, 0);
        due("deeds", x.count(2), 0);
        refuses(x, "undo(1)", o -> o.undo(1), BAD);
        due("kept years", x.count(8), 0);
        for (int k = 0; k <= 2; k++) {
            int place = k;
            finds(x, "on(" + k + ")", o -> o.on(place), NOTHING);
        }
        due("kind", told(x, x.cape(0, 0)), 1);
        dueCape(x, 0, 1, 2);
        refuses(x, "cape(1, 0)", o -> o.cape(1, 0), BAD);
        refuses(x, "valley(1, 0)", o -> o.valley(1, 0), BAD);
        refuses(x, "hold(2)", o -> o.hold(2), BAD);
        due(x, "valley(0, 4)", x.valley(0, 4), 1, 0);
        due("no strong ones", x.count(5), 0);
        dueRow(x, "rows stay", 0, 4, 5);
        due("texts stay", x.count(7), 2);
        due("five capes again", x.year(3), 5);
        due(x, "worths of the text", x.valley(3, 3), 1, 5);
        says(11, "STATE: a FAULT (STATE behind NOTHING)");
        x.hold(3);
        x.keep(2);
        x.text(1, 0);
        refuses(x, "year by a text of none", o -> o.year(1), STATE);
        write(x, 1, "g12 n34 v999");
        refuses(x, "year by a fault behind capes", o -> o.year(1), STATE);
        finds(x, "year by a missing text", o -> o.year(2), NOTHING);
        refuses(x, "year by no text", o -> o.year(4), BAD);
        due("the kept year is there still", x.on(2), 1);
        due("the capes, too", x.count(0), 5);
    }

    private static void capesAndValleys() {
        says(12, "Of a CAPE: 3 what it would PULL now (0: it can't, or THE SUN is DOWN)");
        SunRopes x = yearOf("c11 s11 c01 c10 g91");
        int[] pulls = {1, 2, 0, 0, 2};
        for (int i = 0; i <= 4; i++) due(x, "cape(" + i + ", 3)", x.cape(i, 3), 1, pulls[i]);
        holdTimes(x, 7, 0);
        due(x, "at 42", x.cape(4, 3), 1, 2);
        x.hold(0);
        for (int i = 0; i <= 4; i++) due(x, "cape(" + i + ", 3), it being down", x.cape(i, 3), 1, 0);
        due(x, "a rope by night", x.cape(4, 1), 1, 9);
        says(12, "BAD");
        refuses(x, "the sixth cape", o -> o.cape(5, 0), BAD);
        refuses(x, "cape -1", o -> o.cape(-1, 0), BAD);
        refuses(x, "what 4", o -> o.cape(4, 4), BAD);
        refuses(x, "what -1", o -> o.cape(0, -1), BAD);
        refuses(yearOf("c11"), "the second cape of one", o -> o.cape(1, 0), BAD);

        says(13, "Of a VALLEY: 0 to 4");
        x = yearOf("g99 c99 v001 d779 v071 d349");
        int[][] facts = {{1, 0, 0, 1, 2}, {0, 7, 7, 9, 18}, {1, 0, 7, 1, 2}, {0, 3, 4, 9, 18}};
        // Both hours begin at place 0.
        x.hold(3);
        x.hold(0);
        for (int v = 0; v <= 3; v++) {
            for (int what = 0; what <= 4; what++) {
                due(x, "valley(" + v + ", " + what + ")", x.valley(v, what), 1, facts[v][what]);
            }
        }
        says(13, "BAD");
        refuses(x, "the fifth valley", o -> o.valley(4, 0), BAD);
        refuses(x, "valley -1", o -> o.valley(-1, 0), BAD);
        refuses(x, "what 5", o -> o.valley(3, 5), BAD);
        refuses(x, "what -1", o -> o.valley(0, -1), BAD);
        refuses(yearOf("c11"), "no valley", o -> o.valley(0, 0), BAD);
    }

    private static void marksByTheSun() {
        says(14, "a HAIR whether its ROPE would be less by PULLING now (THE SUN's PLACE alone counts, DOWN: 0)");
        for (int minute = 0; minute <= 53; minute++) {
            SunRopes x = minute < 48 ? atMinute("h00 n99", "", minute) : atMinute("h00 n99", "", minute - 6);
            if (minute >= 48) x.hold(0);
            boolean even = minute / 6 % 2 == 0;
            due("a hair at " + minute, x.mark(0, 1), minute < 48 && even ? 1 : 0);
            due("a noon at " + minute, x.mark(1, 3), minute < 24 ? 24 - minute : 0);
        }
        says(14, "a NOON (LAZY, too) how many MINUTES it is to MINUTE 24 (0: none)");
        SunRopes x = atMinute("l00 n00", "", 23);
        due("a lazy at 23", x.mark(0, 3), 1);
        due("a noon at 23", x.mark(1, 3), 1);
        x = atMinute("l00 n00", "", 24);
        due("a lazy at 24", x.mark(0, 3), 0);
        due("a noon at 24", x.mark(1, 3), 0);
        x = atMinute("l00 n00", "", 0);
        due("a lazy at 0", x.mark(0, 3), 24);
        due("a noon at 0", x.mark(1, 3), 24);
    }

    private static void marksByThemselves() {
        says(14, "a STRONG (GIANT, too) how many other CAPES PULL less than it by KIND");
        String[] years = {"s99", "g99", "s99 g99 s99 g99 s99", "c00 s00 h00 n00 l00", "l99 n99 h99 c99 g99", "s99 c99 s99"};
        int[] strong = {0, 0, 2, 1, 4, 2}, less = {0, 0, 0, 4, 4, 1};
        for (int k = 0; k < years.length; k++) due(years[k], yearOf(years[k]).mark(strong[k], 2), less[k]);
        says(14, "a LAZY how many HOURS it has to rest till its CREW is 9");
        int[] hours = {5, 4, 4, 3, 3, 2, 2, 1, 1, 0};
        for (int crew = 0; crew <= 9; crew++) due("a crew of " + crew, yearOf("l0" + crew).mark(0, 4), hours[crew]);
        says(14, "a GIANT how many HOURS it CAN PULL yet (0 without a CREW)");
        for (int rope = 0; rope <= 9; rope++) {
            due("a rope of " + rope + ", no crew", yearOf("g" + rope + "0").mark(0, 5), 0);
            due("a rope of " + rope + ", a crew of 1", yearOf("g" + rope + "1").mark(0, 5), rope);
            due("a rope of " + rope + ", a crew of 9", yearOf("g" + rope + "9").mark(0, 5), rope);
        }
        says(14, "of capes behind others");
        SunRopes y = yearOf("g50 l04 g60 l27 g41");
        due("a lazy with a crew of 4", y.mark(1, 4), 3);
        due("a lazy with a crew of 7", y.mark(3, 4), 1);
        due("a giant without a crew", y.mark(2, 5), 0);
        due("a giant with a rope of 4", y.mark(4, 5), 4);
        due("a strong", y.mark(4, 2), 2);
        says(14, "BAD: also KIND 0; UNLIKE");
        SunRopes x = yearOf("c99 h99 s99 l99 g99");
        for (int i = 0; i <= 4; i++) {
            int cape = i;
            refuses(x, "kind 0 of " + i, o -> o.mark(cape, 0), BAD);
            refuses(x, "kind 6 of " + i, o -> o.mark(cape, 6), BAD);
        }
        refuses(x, "cape 5", o -> o.mark(5, 1), BAD);
        refuses(x, "cape -1", o -> o.mark(-1, 1), BAD);
        for (int kind = 1; kind <= 5; kind++) {
            int k = kind;
            finds(x, "a plain one is no " + kind, o -> o.mark(0, k), UNLIKE);
        }
        finds(x, "a strong is no giant", o -> o.mark(2, 5), UNLIKE);
        finds(yearOf("n99"), "a noon is no lazy", o -> o.mark(0, 4), UNLIKE);
    }

    private static void prices() {
        says(15, "The WORTH of a VALLEY is v (0 .. 9): what it was");
        SunRopes x = yearOf("c99 v071 v001 d001 d779");
        int was = 9;
        for (int v = 9; v >= 0; v--) {
            due("price(3, " + v + ")", x.price(3, v), was);
            was = v;
        }
        x.hold(0);
        due(x, "a worth of 0 gains nothing", x.valley(3, 4), 1, 0);
        due("the first one", x.price(0, 9), 1);
        due(x, "gained() by the next hour", x.gained(), 2, 0);
        x.hold(0);
        due(x, "gained() behind it", x.gained(), 2 + 9 + 1, 0);
        says(15, "BAD");
        refuses(x, "price(0, 10)", o -> o.price(0, 10), BAD);
        refuses(x, "price(0, -1)", o -> o.price(0, -1), BAD);
        refuses(x, "price(4, 1)", o -> o.price(4, 1), BAD);
        refuses(x, "price(-1, 1)", o -> o.price(-1, 1), BAD);
        refuses(yearOf("c11"), "price(0, 1), no valley", o -> o.price(0, 1), BAD);
    }

    // ---- 2 hours

    private static void deedsThatFill() {
        says(16, "FULL: 60 DEEDS (FULL last)");
        SunRopes x = yearOf("c99 g99 v079");
        x.lots(20, 1);
        x.lots(20, 1);
        due("the sun is down", x.count(4), 1);
        x.rise();
        for (int k = 0; k < 18; k++) x.rope(k % 2, 9);
        due("59 deeds", x.count(2), 59);
        due("the sixtieth goes", x.hold(0), 6);
        due("60 deeds", x.count(2), 60);
        refuses(x, "hold(0)", o -> o.hold(0), FULL);
        refuses(x, "hold(3)", o -> o.hold(3), FULL);
        refuses(x, "hold(4): BAD ahead of FULL", o -> o.hold(4), BAD);
        says(17, "FULL: 60 DEEDS");
        refuses(x, "rope(0, 9)", o -> o.rope(0, 9), FULL);
        refuses(x, "rope(0, 10): BAD ahead of FULL", o -> o.rope(0, 10), BAD);
        says(18, "STATE: it is not DOWN; FULL: 60 DEEDS (FULL last)");
        refuses(x, "rise() by day: STATE ahead of FULL", o -> o.rise(), STATE);
        x.undo(59);
        x.rope(0, 9);
        refuses(x, "rise() by day behind a rope", o -> o.rise(), STATE);
        says(38, "FULL: with n more there would be more than 60 (FULL last)");
        refuses(x, "lots(1, 1)", o -> o.lots(1, 1), FULL);
        refuses(x, "lots(21, 1): BAD ahead of FULL", o -> o.lots(21, 1), BAD);
        says(16, "FULL no more behind undo()");
        due("undo(59)", x.undo(59), 1);
        due("the sixtieth again", x.hold(3), 3);
        refuses(x, "hold(0)", o -> o.hold(0), FULL);
        says(18, "FULL: 60 DEEDS");
        x = yearOf("c99");
        holdTimes(x, 59, 0);
        due("the sixtieth is a rise", x.rise(), 0);
        due("60 deeds", x.count(2), 60);
        x.undo(59);
        x.hold(0);
        refuses(x, "rise() by night behind 60", o -> o.rise(), FULL);
        x.undo(59);
        due("rise() behind undo", x.rise(), 0);
    }

    private static void holding() {
        says(16, "how many MINUTES THE SUN went; which PULLED (bits) by asked()");
        SunRopes x = yearOf("c00 c11 c90 s01 g99");
        due(x, "none is told to", x.hold(0), 6, 0);
        x = yearOf("c00 c11 c90 s01 g99");
        due(x, "all are told to", x.hold(31), 6 - 1 - 2 + 2, 2 | 16);
        x = yearOf("c99");
        due(x, "the only one", x.hold(1), 5, 1);
        says(16, "BAD; STATE: no CAPES");
        refuses(x, "a cape that there is not", o -> o.hold(2), BAD);
        refuses(x, "below 0", o -> o.hold(-1), BAD);
        refuses(new SunRopes(), "a set of none without capes", o -> o.hold(0), STATE);
        refuses(new SunRopes(), "a set without capes", o -> o.hold(1), BAD);

        says(17, "A new ROPE of v (1 .. 9) is laid for a CAPE: what was left of the old one");
        for (int left = 0; left <= 9; left++) {
            x = yearOf("c99 g" + left + "0");
            int v = 10 - Math.max(1, left);
            due("what was left", x.rope(1, v), left);
            dueCape(x, 1, v, 0);
            dueCape(x, 0, 9, 9);
            due("a deed", x.count(2), 1);
            due(x, "the sun does not go", x.sun(), 0, 0);
            x.undo(0);
            dueCape(x, 1, left, 0);
        }
        says(17, "BAD");
        refuses(x, "a rope of 0", o -> o.rope(0, 0), BAD);
        refuses(x, "a rope of 10", o -> o.rope(0, 10), BAD);
        refuses(x, "a rope below 0", o -> o.rope(0, -1), BAD);
        refuses(x, "for a cape that there is not", o -> o.rope(2, 1), BAD);
        refuses(x, "for a cape below 0", o -> o.rope(-1, 1), BAD);
        refuses(new SunRopes(), "without capes", o -> o.rope(0, 1), BAD);
    }

    /** A year in which so much is owed, the sun being down; at most 49. */
    private static SunRopes owing(int owed) {
        SunRopes x = atMinute("", "", 0);
        int[] sets = {0, 4, 1, 5, 3};
        for (int k = 0; k < owed / 5; k++) {
            if (k == 5) renewAndRest(x);
            x.hold(7);
        }
        x.hold(sets[owed % 5]);
        while (x.count(4) == 0 && x.count(2) < 60) x.hold(0);
        due("it is down", x.count(4), 1);
        x.sun();
        due("owed", x.asked(), owed);
        return x;
    }

    private static void renewAndRest(SunRopes x) {
        for (int i = 0; i < 3; i++) x.rope(i, 9);
        x.hold(0);
    }

    private static void winters() {
        says(18, "of what is OWED it pays as many whole 6 MINUTES as there are, 7 at most; the rest stays OWED");
        int[] owed = {0, 1, 5, 6, 7, 11, 12, 35, 36, 40, 41, 42, 43, 47, 48, 49};
        int[] paid = {0, 0, 0, 6, 6, 6, 12, 30, 36, 36, 36, 42, 42, 42, 42, 42};
        for (int k = 0; k < owed.length; k++) {
            SunRopes x = owing(owed[k]);
            int deeds = x.count(2);
            due("rise() of " + owed[k], x.rise(), paid[k]);
            due(x, "it is at the minute of these", x.sun(), paid[k], owed[k] - paid[k]);
            due("a deed", x.count(2), deeds + 1);
            due("it is up", x.count(4), 0);
            refuses(x, "rise() again", o -> o.rise(), STATE);
        }
        says(18, "STATE: it is not DOWN, or no CAPES");
        refuses(atMinute("", "", 0), "rise() at 0", o -> o.rise(), STATE);
        refuses(atMinute("", "", 47), "rise() at 47", o -> o.rise(), STATE);
        SunRopes x = atMinute("", "", 48);
        due("rise() at 48", x.rise(), 0);
        refuses(new SunRopes(), "rise() without capes", o -> o.rise(), STATE);
        says(18, "what is OWED is paid by the next winters, too");
        x = owing(49);
        x.rise();
        x.hold(0);
        due("down at once", x.count(4), 1);
        due("rise() of 7", x.rise(), 6);
        due(x, "one stays", x.sun(), 6, 1);
    }

    private static void undoing() {
        says(19, "DEEDS from number n on are undone (WORTHS stay): how many");
        for (int n = 0; n <= 60; n++) {
            SunRopes x = yearOf("c59 h55 l93 v034 d347");
            long ahead = x.digest();
            for (int k = 0; k < 60; k++) {
                if (k == n) ahead = x.digest();
                if (x.count(4) == 1) x.rise();
                else if (k % 7 == 5) x.rope(k % 3, 1 + k % 9);
                else x.hold(k * 5 % 8);
            }
            if (n == 60) ahead = x.digest();
            due("60 deeds", x.count(2), 60);
            due("undo(" + n + ")", x.undo(n), 60 - n);
            due("as ahead of deed " + n, x.digest(), ahead);
            due("undo(" + n + ") again", x.undo(n), 0);
            due("deeds", x.count(2), n);
            int more = n + 1;
            refuses(x, "undo(" + more + ")", o -> o.undo(more), BAD);
        }
        says(19, "BAD");
        SunRopes x = yearOf("c99 v079");
        refuses(x, "undo(-1)", o -> o.undo(-1), BAD);
        refuses(x, "undo(1) of none", o -> o.undo(1), BAD);
        due("undo(0) of none", x.undo(0), 0);
        due("undo(0) without capes", new SunRopes().undo(0), 0);
        says(19, "WORTHS stay");
        x.hold(0);
        x.price(0, 0);
        due("undo(0)", x.undo(0), 1);
        due("the worth", told(x, x.valley(0, 3)), 0);
    }

    private static void sunAndGains() {
        says(20, "The MINUTE of THE SUN; what is OWED by asked()");
        SunRopes x = yearOf("g99 g99 c99");
        due(x, "at first", x.sun(), 0, 0);
        x.hold(7);
        due(x, "as slowly as it goes", x.sun(), 1, 5);
        holdTimes(x, 8, 0);
        due(x, "by night", x.sun(), 49, 5);
        x.hold(0);
        due(x, "it stays", x.sun(), 49, 5);
        says(20, "STATE: no CAPES");
        refuses(new SunRopes(), "sun()", o -> o.sun(), STATE);
        says(21, "the VALLEY that gained most by asked() (the first; NONE: no VALLEYS)");
        x = yearOf("c99");
        due(x, "no valleys", x.gained(), 0, NONE);
        x = new SunRopes();
        due(x, "no capes", x.gained(), 0, NONE);
        x = yearOf("c99 v111 v111 d001 v111");
        due(x, "all alike: none gained", x.gained(), 0, 0);
        x.hold(0);
        due(x, "still none", x.gained(), 0, 0);
        x.hold(0);
        due(x, "all alike", x.gained(), 4, 0);
        x.hold(0);
        due(x, "one more than others", x.gained(), 5, 2);
        x = yearOf("c99 v001 v001 v001 v009");
        x.hold(0);
        due(x, "the last one", x.gained(), 12, 3);
    }

    /** What a kept year holds, told by one number. */
    private static long yearTold(SunRopes x) {
        long h = digestOf(x.sun(), x.asked(), x.count(2));
        for (int i = 0; i < x.count(0); i++) {
            for (int what = 0; what <= 2; what++) h = digestOf(h, told(x, x.cape(i, what)));
        }
        for (int v = 0; v < x.count(1); v++) {
            for (int what = 0; what <= 4; what++) h = digestOf(h, told(x, x.valley(v, what)));
        }
        return h;
    }

    private static void keptYears() {
        says(22, "The YEAR is kept in a place (0 .. 2): how many DEEDS");
        SunRopes x = yearOf("c59 h55 l93 v034 d347");
        long[] kept = new long[3], deedBefore = new long[3];
        int[] deeds = {0, 1, 60};
        for (int k = 0; k <= 2; k++) {
            while (x.count(2) < deeds[k]) {
                deedBefore[k] = yearTold(x);
                x.hold(x.count(2) % 8);
            }
            if (k == 1) x.price(0, 0);
            due("keep(" + k + ")", x.keep(k), deeds[k]);
            kept[k] = yearTold(x);
            due("kept years", x.count(8), k + 1);
        }
        says(23, "The YEAR is as it was kept: how many DEEDS");
        int[] order = {1, 0, 2, 0, 1, 2, 2};
        for (int k : order) {
            x.undo(0);
            x.price(1, 1);
            x.rope(0, 1);
            for (int h = 0; h < 10; h++) x.hold(7 - h % 8);
            due("on(" + k + ")", x.on(k), deeds[k]);
            due("all of it", yearTold(x), kept[k]);
            if (deeds[k] == 0) continue;
            due("its last deed", x.undo(deeds[k] - 1), 1);
            // Worths stay as they were kept: of the first place's 4 there is 0 in both others.
            if (k == 2) due("as ahead of that deed", yearTold(x), deedBefore[2]);
            due("the other ones", x.undo(0), deeds[k] - 1);
            dueCape(x, 0, 5, 9);
        }
        says(22, "a kept YEAR is kept over");
        x.on(1);
        due("keep(2)", x.keep(2), 1);
        due("keep(0)", x.keep(0), 1);
        due("kept years", x.count(8), 3);
        due("on(2)", x.on(2), 1);
        due("on(0)", x.on(0), 1);
        says(22, "BAD; STATE: no CAPES");
        refuses(x, "keep(3)", o -> o.keep(3), BAD);
        refuses(x, "keep(-1)", o -> o.keep(-1), BAD);
        refuses(new SunRopes(), "keep(2) without capes", o -> o.keep(2), STATE);
        refuses(new SunRopes(), "keep(3): BAD ahead of STATE", o -> o.keep(3), BAD);
        says(23, "BAD; NOTHING");
        refuses(x, "on(3)", o -> o.on(3), BAD);
        refuses(x, "on(-1)", o -> o.on(-1), BAD);
        SunRopes y = yearOf("c11");
        y.keep(1);
        finds(y, "on(0)", o -> o.on(0), NOTHING);
        finds(y, "on(2)", o -> o.on(2), NOTHING);
        due("on(1)", y.on(1), 0);
        finds(new SunRopes(), "on(0) without capes", o -> o.on(0), NOTHING);
    }

    // ---- 3 plans (aside)

    private interface PlanCall { int of(SunRopes x, int r); }

    private static void plansRefused(int number, PlanCall call) {
        says(number, "BAD; STATE: no CAPES; NOTHING; SIZE: more than 12; UNLIKE: no set (in this order)");
        SunRopes none = new SunRopes();
        refuses(none, "BAD ahead of STATE", o -> call.of(o, 6), BAD);
        refuses(none, "STATE ahead of NOTHING", o -> call.of(o, 0), STATE);
        lay(none, 0, new int[13]);
        refuses(none, "STATE ahead of SIZE", o -> call.of(o, 0), STATE);
        lay(none, 0, 1);
        refuses(none, "STATE ahead of UNLIKE", o -> call.of(o, 0), STATE);
        SunRopes x = yearOf("c99 c99");
        refuses(x, "row -1", o -> call.of(o, -1), BAD);
        finds(x, "a missing row", o -> call.of(o, 0), NOTHING);
        lay(x, 0, new int[12]);
        due("12 hours go", call.of(x, 0) != FINDING ? 1 : 0, 1);
        lay(x, 0, new int[13]);
        finds(x, "13 hours", o -> call.of(o, 0), SIZE);
        lay(x, 0, new int[40]);
        finds(x, "40 hours", o -> call.of(o, 0), SIZE);
        int[] bad = {4, -1, 8, MOST, LEAST};
        for (int set : bad) {
            int[] plan = new int[13];
            plan[12] = set;
            lay(x, 0, plan);
            finds(x, "SIZE ahead of UNLIKE", o -> call.of(o, 0), SIZE);
            for (int at = 0; at < 12; at += 11) {
                plan = new int[12];
                plan[at] = set;
                lay(x, 0, plan);
                finds(x, "hour " + at + " of " + set, o -> call.of(o, 0), UNLIKE);
            }
        }
        lay(x, 0, 3, 0, 3);
        due("the greatest and the least set go", call.of(x, 0) != FINDING ? 1 : 0, 1);
    }

    private static void running() {
        plansRefused(24, (x, r) -> x.run(r));
        says(24, "What a PLAN gains all VALLEYS together (12 HOURS at most)");
        SunRopes x = yearOf("c99 v079 d071 d001");
        x.row(0, 0);
        due(x, "no hours", x.run(0), 0, 0);
        for (int hours = 1; hours <= 12; hours++) {
            x.row(0, hours);
            int day = Math.min(8, hours), night = hours - day;
            due(x, hours + " hours", x.run(0), 9 * day + night + hours - 1, 6 * day);
        }
        due(x, "from as it is on", x.hold(0), 6, 0);
        x.row(0, 12);
        due(x, "12 hours from 6 on", x.run(0), 9 * 7 + 5 + 12, 48);
        says(25, "The first HOUR (0, 1, ..) of a PLAN in which a ROPE LURCHES; NONE: none");
        x = yearOf("g99 h19");
        for (int hours = 0; hours <= 12; hours++) {
            int[] plan = new int[hours];
            java.util.Arrays.fill(plan, 1);
            lay(x, 0, plan);
            x.sun();
            int hour = x.burns(0);
            due(x, hours + " hours", hour, hours < 9 ? NONE : 8, hours < 9 ? 0 : 1);
        }
        lay(x, 0, 2, 2);
        due(x, "hour 0", x.burns(0), 0, 2);
        lay(x, 0, 0, 2, 0, 0);
        due("a hair at an odd place", x.burns(0), NONE);
        lay(x, 0, 0, 2, 2);
        due("then at an odd one still, 11 being place 1", x.burns(0), NONE);
        lay(x, 0, 0, 0, 0, 0, 0, 0, 0, 0, 2, 3);
        due("by night none", x.burns(0), NONE);
        int[] late = {0, 0, 0, 0, 0, 0, 0, 0, 0, 0, 0, 1};
        x = yearOf("g19 g99 g99");
        lay(x, 0, late);
        due("by night none in hour 11", x.burns(0), NONE);
        lay(x, 0, 6, 6, 6, 6, 6, 6, 6, 6, 0, 0, 0, 1);
        due(x, "the last hour of 12", x.burns(0), 11, 1);
        plansRefused(25, (y, r) -> y.burns(r));
    }

    private static void searching() {
        says(26, "The PLAN of n (0 .. 3) HOURS that gains most (of alike ones the first)");
        SunRopes x = yearOf("c99 c99 c99 c99 c99 v079 d071");
        for (int n = 0; n <= 3; n++) {
            x.row(0, 40);
            due("best(" + n + ")", x.best(n, 0), 9 * n);
            dueRow(x, "all alike: the first", 0, new int[n]);
        }
        holdTimes(x, 8, 0);
        for (int n = 0; n <= 3; n++) {
            due("best(" + n + ") by night", x.best(n, 5), n);
            dueRow(x, "all alike by night", 5, new int[n]);
        }
        x = yearOf("c99 c99");
        due("slowest(3)", x.slowest(3, 0), 12);
        dueRow(x, "slowest(3)", 0, 3, 3, 3);
        due("best(3) that gains nothing, behind another search", x.best(3, 0), 0);
        dueRow(x, "the first", 0, 0, 0, 0);
        // By any of them the sun is at 5 behind an hour: two hours of light; of those the first.
        x = yearOf("c99 c99 h99 n99 c99 v009");
        due("best(2)", x.best(2, 0), 18);
        dueRow(x, "the first of those that hold", 0, 1, 0);
        x = yearOf("c09 c90 h99 n99 c99 v009");
        due("best(2), two not able", x.best(2, 0), 18);
        dueRow(x, "the first of those that can", 0, 4, 0);
        says(26, "BAD; STATE: no CAPES");
        refuses(x, "best(4, 0)", o -> o.best(4, 0), BAD);
        refuses(x, "best(-1, 0)", o -> o.best(-1, 0), BAD);
        refuses(x, "best(0, 6)", o -> o.best(0, 6), BAD);
        refuses(x, "best(0, -1)", o -> o.best(0, -1), BAD);
        refuses(new SunRopes(), "best(0, 0) without capes", o -> o.best(0, 0), STATE);
        refuses(new SunRopes(), "BAD ahead of STATE", o -> o.best(4, 0), BAD);

        says(27, "the least MINUTE without a LURCH in it (of alike ones the first)");
        x = yearOf("c19 s19 n19 l19 g19");
        for (int n = 0; n <= 3; n++) {
            x.row(0, 40);
            due("all would lurch: slowest(" + n + ")", x.slowest(n, 0), 6 * n);
            dueRow(x, "none holds", 0, new int[n]);
        }
        x = yearOf("h19 c99");
        due("a hair lurches at place 0, not at place 1", x.slowest(2, 0), 5 + 5);
        dueRow(x, "none, then both: as slow as the other one twice", 0, 0, 3);
        due("slowest(3)", x.slowest(3, 0), 5 + 5 + 4);
        dueRow(x, "slowest(3)", 0, 0, 3, 3);
        // At 11 the first may lurch to 18, where the hairs (they rest ahead of it) burn no rope: 19 by a
        // lurch, as by the giant twice without one.
        x = yearOf("c19 h35 h35 h35 g99");
        holdTimes(x, 3, 14);
        holdTimes(x, 2, 30);
        due("the sun's minute", x.sun(), 11);
        due("slowest(2), a plan with a lurch ahead of it", x.slowest(2, 0), 19);
        dueRow(x, "the first without a lurch", 0, 16, 16);
        x = yearOf("g99 g99 g99 c99 c99");
        due("a minute at least: slowest(1)", x.slowest(1, 0), 1);
        dueRow(x, "the first that pull 5 or more", 0, 7);
        x = yearOf("c99");
        holdTimes(x, 9, 0);
        for (int n = 0; n <= 3; n++) {
            due("by night: slowest(" + n + ")", x.slowest(n, 0), 48);
            dueRow(x, "by night", 0, new int[n]);
        }
        says(27, "BAD; STATE: no CAPES");
        refuses(x, "slowest(4, 0)", o -> o.slowest(4, 0), BAD);
        refuses(x, "slowest(-1, 0)", o -> o.slowest(-1, 0), BAD);
        refuses(x, "slowest(3, 6)", o -> o.slowest(3, 6), BAD);
        refuses(x, "slowest(3, -1)", o -> o.slowest(3, -1), BAD);
        refuses(new SunRopes(), "slowest(3, 0) without capes", o -> o.slowest(3, 0), STATE);
        refuses(new SunRopes(), "BAD ahead of STATE", o -> o.slowest(3, 6), BAD);
    }

    private static void lasting() {
        says(28, "In how many HOURS (0 .. 48) THE SUN is DOWN");
        for (int minute = 0; minute <= 48; minute++) {
            due("down(0) at " + minute, atMinute("", "", minute).down(0), (48 - minute + 5) / 6);
        }
        SunRopes x = atMinute("c19", "", 42);
        due("one that lurches at 42", x.down(1), 1);
        due("one that pulls at 42", x.down(8), 2);
        due("all that pull at 42", x.down(14), 6);
        says(28, "BAD; STATE: no CAPES");
        refuses(x, "down(16)", o -> o.down(16), BAD);
        refuses(x, "down(-1)", o -> o.down(-1), BAD);
        refuses(new SunRopes(), "down(0) without capes", o -> o.down(0), STATE);
        refuses(new SunRopes(), "BAD ahead of STATE", o -> o.down(1), BAD);

        says(29, "longest till THE SUN is DOWN (of alike ones the first); how many HOURS by asked()");
        x = yearOf("c09 c90 s00");
        // The second rests in the first hour, pulls in the others one by one: 6, 11, 17, 22, 28, 33, 39, 44, 50.
        due(x, "who rests first", x.longest(), 2, 9);
        x = yearOf("c99 c99");
        // By one: 9 hours of 5, a lurch in the last: 47, then 53: 10. By two: 4 each, 36, two lurches: 40; 46, 52: 11.
        due(x, "both", x.longest(), 3, 11);
        x = yearOf("c09 c09");
        due(x, "none can: the first", x.longest(), 0, 8);
        x = atMinute("", "", 47);
        // At 47 a hold of 5 makes it 48.
        due(x, "any is as long as any other at 47", x.longest(), 0, 1);
        x.hold(0);
        due(x, "by night", x.longest(), 0, 0);
        says(29, "STATE: no CAPES");
        refuses(new SunRopes(), "longest()", o -> o.longest(), STATE);
    }

    private static void ropesAhead() {
        says(30, "the fewest CAPES that have to have a new ROPE of 9; which (bits; the least); NONE: by none");
        SunRopes x = yearOf("g99 g19 g19 g09 g99");
        lay(x, 0, new int[12]);
        due(x, "nobody holds", x.ropes(0), 0, 0);
        x.row(0, 0);
        due(x, "no hours", x.ropes(0), 0, 0);
        lay(x, 0, 31);
        due(x, "the two that would lurch", x.ropes(0), 2, 6);
        lay(x, 0, 1, 1, 1, 1, 1, 1, 1, 1);
        due(x, "8 hours of one of 9", x.ropes(0), 0, 0);
        lay(x, 0, 2, 2, 2, 2, 2, 2, 2, 2);
        due(x, "8 hours of one of 1", x.ropes(0), 1, 2);
        lay(x, 0, 2, 2, 2, 2, 2, 2, 2, 2, 2);
        x.sun();
        due(x, "9 hours: a new rope burns, too", x.ropes(0), NONE, 0);
        x = yearOf("c11 c11 c11 c11 c11");
        for (int set = 0; set <= 31; set++) {
            lay(x, 0, set);
            due(x, "those of " + set, x.ropes(0), Integer.bitCount(set), set);
        }
        plansRefused(30, (y, r) -> y.ropes(r));
    }

    // ---- 4 lurches, votes

    private static void loosed() {
        says(31, "the least of these jumps together; the order (of alike orders the first)");
        SunRopes x = yearOf("s00 c00 g00 l00 h00");
        int[] sets = {0, 1, 2, 4, 3, 5, 10, 26, 31, 29};
        int[] least = {0, 0, 0, 0, 1, 2, 1, 3, 11, 7};
        int[][] orders = {{}, {0}, {1}, {2}, {1, 0}, {0, 2}, {1, 3}, {1, 3, 4}, {1, 3, 4, 0, 2}, {3, 4, 0, 2}};
        for (int k = 0; k < sets.length; k++) {
            x.row(1, 40);
            due("loose(" + sets[k] + ")", x.loose(sets[k], 1), least[k]);
            dueRow(x, "loose(" + sets[k] + ")", 1, orders[k]);
        }
        x = yearOf("s99 s99 g99 g99 s99");
        due("five strong ones", x.loose(31, 1), 2 * (4 + 3 + 2 + 1));
        dueRow(x, "five strong ones", 1, 0, 1, 2, 3, 4);
        x = yearOf("c99 h99 n99 l99 c99");
        holdTimes(x, 9, 0);
        due("five weak ones by night", x.loose(31, 1), 4 + 3 + 2 + 1);
        dueRow(x, "five weak ones", 1, 0, 1, 2, 3, 4);
        says(31, "BAD");
        refuses(x, "loose(32, 0)", o -> o.loose(32, 0), BAD);
        refuses(x, "loose(-1, 0)", o -> o.loose(-1, 0), BAD);
        refuses(x, "loose(0, 6)", o -> o.loose(0, 6), BAD);
        refuses(x, "loose(0, -1)", o -> o.loose(0, -1), BAD);
        SunRopes none = new SunRopes();
        refuses(none, "loose(1, 0) without capes", o -> o.loose(1, 0), BAD);
        due("loose(0, 5) without capes", none.loose(0, 5), 0);
        dueRow(none, "a row of none", 5);
    }

    private static void voted() {
        says(32, "How many VALLEYS gain more in the next two HOURS if one set HOLDS; which (bits) by asked()");
        SunRopes x = yearOf("c99 v001 v009 d001 d778");
        due(x, "for the one", x.votes(1, 0), 2, 3);
        due(x, "for the other", x.votes(0, 1), 1, 4);
        due(x, "for itself", x.votes(1, 1), 0, 0);
        x = yearOf("g99 g99 c99 c99 c99 v001 v002 d003 v114");
        due(x, "all five capes, all four valleys", x.votes(31, 0), 2, 3);
        due(x, "against all five", x.votes(0, 31), 2, 12);
        x = yearOf("c99 v001 v009 v051 d178");
        due(x, "three of four", x.votes(1, 0), 3, 11);
        x = yearOf("c99 v001 v009 d171 d178");
        due(x, "all four", x.votes(1, 0), 4, 15);
        due(x, "none of four", x.votes(0, 1), 0, 0);
        x = yearOf("c99");
        due(x, "no valleys", x.votes(1, 0), 0, 0);
        x = yearOf("c99 v001 d178");
        holdTimes(x, 8, 0);
        due(x, "by night", x.votes(1, 0), 0, 0);
        x = atMinute("", "d079 v779", 47);
        due(x, "the second hour is night by any", x.votes(7, 0), 0, 0);
        x = atMinute("", "d079 v779", 43);
        due(x, "the second hour is night by none", x.votes(7, 0), 1, 2);
        due(x, "dark has it", x.votes(0, 7), 1, 1);
        says(32, "BAD; STATE: no CAPES");
        refuses(x, "votes(8, 0)", o -> o.votes(8, 0), BAD);
        refuses(x, "votes(0, 8)", o -> o.votes(0, 8), BAD);
        refuses(x, "votes(-1, 0)", o -> o.votes(-1, 0), BAD);
        refuses(x, "votes(0, -1)", o -> o.votes(0, -1), BAD);
        refuses(new SunRopes(), "votes(0, 0) without capes", o -> o.votes(0, 0), STATE);
        refuses(new SunRopes(), "BAD ahead of STATE", o -> o.votes(0, 1), BAD);

        says(33, "The set that no other one beats by more VALLEYS for it than against (of such the first)");
        due("no valleys: the first", yearOf("c99 g99").choice(), 0);
        x = yearOf("c99 c99 v001 d001");
        due("one against one: the first", x.choice(), 0);
        x.price(1, 0);
        due("one for it: the first that holds", x.choice(), 1);
        x.price(0, 0);
        due("none has a worth: the first", x.choice(), 0);
        x.price(0, 1);
        holdTimes(x, 8, 0);
        due("by night: the first", x.choice(), 0);
        // From 4 on all five bring the sun to 5, all others to 6 or more.
        x = yearOf("c99 c99 c99 c99 c99 v009");
        x.hold(3);
        due("the last set alone", x.choice(), 31);
        due(x, "it beats the one ahead of it", x.votes(31, 30), 1, 1);
        due(x, "which beats no other one", x.votes(30, 0), 0, 0);
        lay(x, 0, 18);
        due(x, "what the last set alone brings", x.parts(0), 1, NONE);
        lay(x, 0, 17);
        due(x, "one less than that", x.parts(0), 0, 1);
        says(33, "STATE: no CAPES");
        refuses(new SunRopes(), "choice()", o -> o.choice(), STATE);
    }

    private static void partsOfValleys() {
        says(34, "no set of VALLEYS has less together than the most that it gains together");
        SunRopes x = yearOf("c99 v001 v002 v003 v004");
        lay(x, 0, 2, 4, 6, 8);
        due(x, "each has as much as it gains", x.parts(0), 1, NONE);
        int[] enough = {2, 4, 6, 8};
        for (int v = 0; v <= 3; v++) {
            int[] parts = enough.clone();
            parts[v]--;
            lay(x, 0, parts);
            due(x, "valley " + v + " has one less", x.parts(0), 0, 1 << v);
            java.util.Arrays.fill(parts, MOST);
            parts[v] = enough[v] - 1;
            lay(x, 0, parts);
            due(x, "valley " + v + " alone has one less", x.parts(0), 0, 1 << v);
        }
        // By none the sun is at 6, by any at 5 or less.
        SunRopes y = yearOf("g99 g99 c99 c99 c99 v001 v002 d003 v114");
        lay(y, 0, 2, 4, 3, 4);
        due(y, "the most of each, by one set or another", y.parts(0), 1, NONE);
        lay(y, 0, 2, 4, 3, 3);
        due(y, "the most that only none who holds brings", y.parts(0), 0, 8);
        lay(y, 0, 2, 4, 2, 4);
        due(y, "the same of the dark", y.parts(0), 0, 4);
        says(34, "the first set that has by asked() (bits; NONE: none)");
        lay(x, 0, 1, 3, 5, 7);
        due(x, "all have less: the first", x.parts(0), 0, 1);
        lay(x, 0, LEAST, LEAST, LEAST, LEAST);
        due(x, "the least parts", x.parts(0), 0, 1);
        lay(x, 0, MOST, MOST, MOST, MOST);
        due(x, "the most parts", x.parts(0), 1, NONE);
        lay(x, 0, 2, 4, LEAST, LEAST);
        due(x, "a sum below all ints", x.parts(0), 0, 4);
        holdTimes(x, 8, 0);
        lay(x, 0, 0, 0, 0, 0);
        due(x, "by night light asks nothing", x.parts(0), 1, NONE);
        lay(x, 0, 0, 0, 0, -1);
        due(x, "but not less than nothing", x.parts(0), 0, 8);
        says(34, "BAD; STATE: no CAPES; NOTHING; SIZE: not as many (in this order)");
        finds(x, "a missing row", o -> o.parts(5), NOTHING);
        int[] sizes = {0, 3, 5, 40};
        for (int n : sizes) {
            x.row(1, n);
            finds(x, "a row of " + n, o -> o.parts(1), SIZE);
        }
        refuses(x, "row 6", o -> o.parts(6), BAD);
        SunRopes none = new SunRopes();
        refuses(none, "STATE ahead of NOTHING", o -> o.parts(0), STATE);
        none.row(0, 1);
        refuses(none, "STATE ahead of SIZE", o -> o.parts(0), STATE);
        refuses(none, "BAD ahead of STATE", o -> o.parts(-1), BAD);
        x = yearOf("c99");
        x.row(0, 0);
        due(x, "no valleys, no parts", x.parts(0), 1, NONE);
        x.row(0, 1);
        finds(x, "no valleys, a part", o -> o.parts(0), SIZE);
    }

    // ---- 5 what was

    private static void fitting() {
        says(35, "MINUTES of THE SUN behind HOUR 0, 1, .. from now on (a ROW; 3 at most)");
        SunRopes x = yearOf("c99 c99");
        int[][] minutes = {{}, {5}, {5, 10}, {5, 10, 15}, {6, 12, 18}, {4, 8, 12}, {5, 10, 14}};
        int[] ways = {1, 2, 4, 8, 1, 1, 4};
        int[][] first = {{}, {1}, {1, 1}, {1, 1, 1}, {0, 0, 0}, {3, 3, 3}, {1, 1, 3}};
        for (int k = 0; k < minutes.length; k++) {
            lay(x, 0, minutes[k]);
            x.row(1, 40);
            due("fits " + k, x.fits(3, 0, 1), ways[k]);
            dueRow(x, "fits " + k, 1, first[k]);
        }
        lay(x, 0, 6, 12);
        due("a set of none", x.fits(0, 0, 1), 1);
        dueRow(x, "a set of none", 1, 0, 0);
        says(35, "if there is none, that ROW stays as it is");
        int[][] never = {{7}, {3}, {0}, {-1}, {MOST}, {LEAST}, {5, 5}, {5, 10, 99}};
        for (int[] m : never) {
            lay(x, 0, m);
            lay(x, 1, 7, 8, 9);
            due("none", x.fits(3, 0, 1), 0);
            dueRow(x, "that row stays", 1, 7, 8, 9);
        }
        x.tear(1);
        due("none", x.fits(3, 0, 1), 0);
        finds(x, "that row is missing still", o -> o.at(1, 0), NOTHING);
        says(35, "each a part of it: all parts by night");
        x = yearOf("c99 c99 c99 c99 c99");
        holdTimes(x, 8, 0);
        lay(x, 0, 48, 48, 48);
        due("all rows of parts", x.fits(31, 0, 1), 32768);
        dueRow(x, "the first of all", 1, 0, 0, 0);
        due("of a set of two", x.fits(9, 0, 1), 64);
        lay(x, 0, 48, 48, 49);
        due("none", x.fits(31, 0, 1), 0);
        says(35, "BAD; STATE: no CAPES; NOTHING; SIZE: more than 3 (in this order)");
        lay(x, 0, 48, 48, 48, 48);
        finds(x, "4 minutes", o -> o.fits(31, 0, 1), SIZE);
        x.row(0, 40);
        finds(x, "40 minutes", o -> o.fits(31, 0, 1), SIZE);
        finds(x, "a missing row", o -> o.fits(31, 5, 1), NOTHING);
        refuses(x, "no set", o -> o.fits(32, 5, 1), BAD);
        refuses(x, "no row", o -> o.fits(31, 6, 1), BAD);
        refuses(x, "no other row", o -> o.fits(31, 0, 6), BAD);
        SunRopes none = new SunRopes();
        refuses(none, "STATE ahead of NOTHING", o -> o.fits(0, 0, 1), STATE);
        none.row(0, 4);
        refuses(none, "STATE ahead of SIZE", o -> o.fits(0, 0, 1), STATE);
        refuses(none, "BAD ahead of STATE", o -> o.fits(1, 0, 1), BAD);
    }

    private static void slipping() {
        says(36, "CAPES of that set that have slipped in some HOUR in all these rows (0: none fits)");
        SunRopes x = yearOf("c99 g99");
        int[][] minutes = {{}, {6}, {5}, {4}, {3}, {2}, {6, 9}, {3, 9}, {3, 6, 9}, {3, 6, 12}, {5, 9}, {5, 11, 15}, {7}, {MOST}};
        int[] slipped = {0, 3, 2, 1, 0, 0, 3, 3, 0, 3, 3, 3, 0, 0};
        for (int k = 0; k < minutes.length; k++) {
            lay(x, 0, minutes[k]);
            due("slipped " + k, x.slipped(3, 0), slipped[k]);
        }
        lay(x, 0, 6);
        due("of a set of none", x.slipped(0, 0), 0);
        due("of the second alone", x.slipped(2, 0), 2);
        holdTimes(x, 8, 0);
        lay(x, 0, 48, 48, 48);
        due("by night nobody has to", x.slipped(3, 0), 0);
        says(36, "BAD; STATE; NOTHING; SIZE (in this order)");
        x.row(0, 4);
        finds(x, "4 minutes", o -> o.slipped(3, 0), SIZE);
        finds(x, "a missing row", o -> o.slipped(3, 5), NOTHING);
        refuses(x, "no set", o -> o.slipped(4, 5), BAD);
        refuses(x, "no row", o -> o.slipped(3, 6), BAD);
        SunRopes none = new SunRopes();
        refuses(none, "STATE ahead of NOTHING", o -> o.slipped(0, 0), STATE);
        none.row(0, 4);
        refuses(none, "STATE ahead of SIZE", o -> o.slipped(0, 0), STATE);
        refuses(none, "BAD ahead of STATE", o -> o.slipped(1, 0), BAD);
    }

    // ---- 6 chances, lots

    private static void chances() {
        says(37, "Chances that THE SUN is at a MINUTE of m (0 .. 99) or more behind n (0 .. 3) HOURS");
        SunRopes x = yearOf("c99 c99");
        int[] atLeast = {4, 4, 4, 4, 4, 3, 1, 0};
        for (int m = 0; m <= 7; m++) {
            int ways = atLeast[m], lowest = ways == 0 || ways == 4 ? 1 : ways == 2 ? 2 : 4;
            dueChance(x, "m " + m, x.odds(3, 1, m), ways * lowest / 4, lowest);
        }
        dueChance(x, "no hours, at 0", x.odds(3, 0, 0), 1, 1);
        dueChance(x, "no hours, at 1", x.odds(3, 0, 1), 0, 1);
        dueChance(x, "a set of none", x.odds(0, 3, 18), 1, 1);
        dueChance(x, "m 99", x.odds(3, 3, 99), 0, 1);
        holdTimes(x, 8, 0);
        dueChance(x, "by night", x.odds(3, 3, 48), 1, 1);
        dueChance(x, "by night not on", x.odds(3, 3, 49), 0, 1);
        x = yearOf("c19 c19");
        // A lurch each: 6, 7, 7, 8 by how many hold.
        dueChance(x, "lurches", x.odds(3, 1, 7), 3, 4);
        dueChance(x, "both lurch", x.odds(3, 1, 8), 1, 4);
        says(37, "each CAPE of a set HOLDS or not: sets with others between");
        x = yearOf("c99 g99 c99");
        dueChance(x, "the first and the last", x.odds(5, 1, 5), 3, 4);
        dueChance(x, "the first and the last, both", x.odds(5, 1, 6), 1, 4);
        dueChance(x, "the last", x.odds(4, 1, 6), 1, 2);
        dueChance(x, "the one between", x.odds(2, 1, 5), 1, 2);
        dueChance(x, "the last, twice", x.odds(4, 2, 11), 3, 4);
        dueChance(x, "the last two, thrice", x.odds(6, 3, 18), 1, 64);
        x = yearOf("c99 c99");
        x.odds(3, 1, 6);
        says(37, "BAD; STATE: no CAPES");
        refuses(x, "m 100", o -> o.odds(3, 1, 100), BAD);
        refuses(x, "m -1", o -> o.odds(3, 1, -1), BAD);
        refuses(x, "n 4", o -> o.odds(3, 4, 1), BAD);
        refuses(x, "n -1", o -> o.odds(3, -1, 1), BAD);
        refuses(x, "set 4", o -> o.odds(4, 1, 1), BAD);
        refuses(new SunRopes(), "without capes", o -> o.odds(0, 0, 0), STATE);
        refuses(new SunRopes(), "BAD ahead of STATE", o -> o.odds(1, 0, 0), BAD);
        says(40, "The upper number of the chances that were told last");
        due("upper() behind refusals", x.upper(), 1);
        says(41, "Its lower number");
        due("lower() behind refusals", x.lower(), 4);
    }

    private static void byLots() {
        says(38, "n (1 .. 20) HOURS truly by LOTS of a seed (1 .. 2147483646)");
        String[] years = {"g99", "c99 g99", "c99 h99 g99", "c99 h99 n99 g99", "c99 h99 n99 l99 g99"};
        int[] seeds = {1, 2, 77, 48271, 1073741824, 2147483645, 2147483646};
        int[] hours = {1, 2, 19, 20};
        for (String year : years) {
            for (int seed : seeds) {
                for (int n : hours) dueLots(year, n, seed);
            }
        }
        says(38, "FULL: with n more there would be more than 60");
        SunRopes x = yearOf("c99");
        x.lots(20, 1);
        x.lots(20, 1);
        x.hold(0);
        refuses(x, "41 and 20", o -> o.lots(20, 1), FULL);
        due("41 and 19", x.lots(19, 1) >= 0 ? 1 : 0, 1);
        refuses(x, "60 and 1", o -> o.lots(1, 1), FULL);
        x.undo(40);
        due("40 and 20", x.lots(20, 1) >= 0 ? 1 : 0, 1);
        due("deeds", x.count(2), 60);
        says(38, "BAD; STATE: no CAPES");
        SunRopes y = yearOf("c99");
        int[][] bad = {{0, 1}, {21, 1}, {-1, 1}, {MOST, 1}, {LEAST, 1}, {1, 0}, {1, -1}, {1, MOST}, {1, LEAST}};
        for (int[] b : bad) refuses(y, "lots(" + b[0] + ", " + b[1] + ")", o -> o.lots(b[0], b[1]), BAD);
        refuses(new SunRopes(), "without capes", o -> o.lots(20, 1), STATE);
        refuses(new SunRopes(), "BAD ahead of STATE", o -> o.lots(21, 1), BAD);
    }

    private static void dueLots(String year, int n, int seed) {
        SunRopes x = yearOf(year), y = yearOf(year);
        long lot = seed;
        int went = 0;
        for (int k = 0; k < n; k++) {
            lot = Math.floorMod(lot * 48271L, 2147483647L);
            went += y.hold((int) (lot / 32 % (1 << y.count(0))));
        }
        due(year + ": lots(" + n + ", " + seed + ")", x.lots(n, seed), went);
        due("the same as these hours", x.digest(), y.digest());
        due("deeds", x.undo(0), n);
    }

    // ---- 7 what is told

    private static void askedLast() {
        says(39, "What the latest that was not refused (nor NONE, but as told) told");
        SunRopes x = yearOf("g19 c99 v014");
        x.cape(0, 1);
        due("cape", x.asked(), 1);
        x.valley(0, 3);
        due("valley", x.asked(), 4);
        x.hold(3);
        due("hold", x.asked(), 3);
        due("sun", x.sun(), 5);
        due("sun told what is owed", x.asked(), 3);
        lay(x, 0, 0);
        due("lay told what it was", x.lay(0, 0, 2), 1);
        due("lay", x.asked(), 0);
        x.at(0, 0);
        due("at", x.asked(), 2);
        due("burns: none", x.burns(0), NONE);
        due("asked() stays", x.asked(), 2);
        due("run", x.run(0), 4);
        due("run told the minute", x.asked(), 10);
        due("longest", x.longest() >= 0 ? 1 : 0, 1);
        due("longest told hours", x.asked() >= 8 ? 1 : 0, 1);
        due("gained", x.gained(), 4);
        due("gained told the valley", x.asked(), 0);
        lay(x, 0, 5);
        due("mean", told(x, x.mean(0)), 5);
        due("parts", x.parts(0), 0);
        due("parts told the first set", x.asked(), 1);
        lay(x, 0, 99);
        due("parts", x.parts(0), 1);
        due("parts told none", x.asked(), NONE);
        x.votes(0, 0);
        due("votes told none of them", x.asked(), 0);
        SunRopes y = yearOf("g99");
        lay(y, 0, 1, 1, 1, 1, 1, 1, 1, 1, 1);
        y.at(0, 0);
        due("ropes: by none", y.ropes(0), NONE);
        due("asked() stays", y.asked(), 1);
        due("burns", y.burns(0), 8);
        due("burns told who", y.asked(), 1);
        says(39, "0 before");
        due("asked()", new SunRopes().asked(), 0);
        says(40, "0 before");
        due("upper()", new SunRopes().upper(), 0);
        says(41, "1 before");
        due("lower()", new SunRopes().lower(), 1);
    }

    private static void counted() {
        says(42, "count(): as many as there can be");
        SunRopes x = yearOf("g99 s99 g99 s99 s99 v001 v001 v001 v001");
        for (int r = 0; r <= 5; r++) x.row(r, r);
        for (int t = 0; t <= 2; t++) x.text(t, t);
        for (int k = 0; k <= 2; k++) x.keep(k);
        for (int k = 0; k < 60; k++) x.rope(k % 5, 1);
        int[] most = {5, 4, 60, 5, 0, 5, 6, 4, 3};
        for (int what = 0; what <= 8; what++) due("count(" + what + ")", x.count(what), most[what]);
        says(42, "3 CAPES that CAN PULL now (0, if it is DOWN), 4 whether THE SUN is DOWN");
        x = yearOf("n99 l99 c99 c09 c90");
        int[] can = {3, 4, 4, 4, 2, 2, 2, 2, 0, 0};
        for (int k = 0; k <= 9; k++) {
            due("who can behind " + k + " hours", x.count(3), can[k]);
            due("down behind " + k + " hours", x.count(4), k >= 8 ? 1 : 0);
            x.hold(0);
        }
        says(42, "BAD");
        refuses(x, "count(9)", o -> o.count(9), BAD);
        refuses(x, "count(-1)", o -> o.count(-1), BAD);
        says(43, "The latest FINDING (0 before any)");
        x = new SunRopes();
        due("finding()", x.finding(), 0);
        x.row(9, 9);
        due("finding() behind BAD", x.finding(), 0);
        says(44, "How often a FINDING (1 .. 5) was answered");
        for (int f = 1; f <= 5; f++) due("findings(" + f + ")", x.findings(f), 0);
        for (int k = 1; k <= 50; k++) {
            x.tear(0);
            x.row(1, -1);
            due("findings(1)", x.findings(NOTHING), k);
            due("findings(5)", x.findings(SIZE), k);
            due("finding()", x.finding(), SIZE);
        }
        refuses(x, "findings(0)", o -> o.findings(0), BAD);
        refuses(x, "findings(6)", o -> o.findings(6), BAD);
    }

    private static long digestOf(long h, long... all) {
        for (long v : all) h = 31 * h + v;
        return h;
    }

    private static void digests() {
        says(45, "h = 17; then h = 31 h + v: a long that wraps around");
        SunRopes x = new SunRopes();
        long h = digestOf(17, 0, 0, 0, 0, 0, 0, 6, 4, 0, 0, 0, -1, -1, -1);
        for (int r = 0; r <= 5; r++) {
            x.row(r, 40);
            h = digestOf(h, 40);
            for (int i = 0; i < 40; i++) {
                int v = i % 2 == 0 ? LEAST + i : MOST - r;
                x.lay(r, i, v);
                h = digestOf(h, v);
            }
        }
        for (int t = 0; t <= 3; t++) {
            x.text(t, 60);
            h = digestOf(h, 60);
            for (int i = 0; i < 30; i++) x.put(t, i, -128 + i * t);
            for (int i = 0; i < 60; i++) h = digestOf(h, i < 30 ? (byte) (-128 + i * t) : 32);
        }
        due("digest() of full rows, texts", x.digest(), h);
        says(45, "of each kept YEAR how many DEEDS (-1: missing); its size (-1: missing)");
        x = yearOf("h19 g90");
        x.keep(0);
        holdTimes(x, 9, 0);
        x.keep(2);
        long year = digestOf(17, 2, 0, 9, 0, 1, 1, 1, 1, 2, 48, 0, 1, 1, 9, 0, 5, 9, 9, 0, 0, -1, 9);
        x.row(1, 0);
        long all = digestOf(year, -1, 0, -1, -1, -1, -1, -1, -1, -1, 7, 'h', '1', '9', ' ', 'g', '9', '0');
        due("digest() by night", x.digest(), all);
        says(45, "the MINUTE, what is OWED; of each CAPE cape() 0 to 3; of each VALLEY valley() 0 to 4");
        String full = "c55 h11 s55 n55 g51 v075 v001 d162 d779";
        x = yearOf(full);
        x.hold(31);
        // At 1 and 2 more by the hair's lurch, 5 owed; the hair is without a rope and a crew.
        h = digestOf(17, 5, 4, 1, 4, 0, 2, 0, 1, 0, 3, 5);
        h = digestOf(h, 0, 4, 4, 1, 1, 0, 0, 0, 2, 4, 4, 2, 3, 4, 4, 1, 5, 4, 1, 2);
        h = digestOf(h, 1, 0, 7, 5, 5, 1, 0, 0, 1, 1, 0, 1, 6, 2, 2, 0, 7, 7, 9, 9);
        h = digestOf(h, -1, -1, -1, -1, -1, -1, -1, -1, -1, -1, -1, -1, full.length());
        for (char sign : full.toCharArray()) h = digestOf(h, sign);
        due("digest() of a full year", x.digest(), h);
    }

    public static void main(String[] args) {
        newObject();
        rows();
        copies();
        copiesRefused();
        means();
        texts();
        faults();
        years();
        capesAndValleys();
        marksByTheSun();
        marksByThemselves();
        prices();
        deedsThatFill();
        holding();
        winters();
        undoing();
        sunAndGains();
        keptYears();
        running();
        searching();
        lasting();
        ropesAhead();
        loosed();
        voted();
        partsOfValleys();
        fitting();
        slipping();
        chances();
        byLots();
        askedLast();
        counted();
        digests();
        tellEnd();
    }
}
