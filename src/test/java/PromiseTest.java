/** Each promise of the document by calls whose answers were worked out by hand. */
public final class PromiseTest extends Checks {
    // ---- 1 rows, texts, years

    private static void newObject() {
        promise = 1;
        SunRopes x = new SunRopes();
        for (int what = 0; what <= 8; what++) due("count(" + what + ")", x.count(what), 0);
        for (int r = 0; r <= 5; r++) due("tear(" + r + ")", x.tear(r), FINDING);
        for (int t = 0; t <= 3; t++) due("fault(" + t + ")", x.fault(t), FINDING);
        for (int k = 0; k <= 2; k++) due("on(" + k + ")", x.on(k), FINDING);
        due("findings(1)", x.findings(NOTHING), 13);
        due("sun()", x.sun(), STATE);
        due("cape(0, 0)", x.cape(0, 0), BAD);
        due("valley(0, 0)", x.valley(0, 0), BAD);
        SunRopes y = new SunRopes();
        y.row(0, 1);
        due("another object's count(6)", x.count(6), 0);
    }

    private static void rows() {
        promise = 2;
        SunRopes x = new SunRopes();
        due("row(0, 0)", x.row(0, 0), 0);
        due("row(5, 40)", x.row(5, 40), 40);
        x.lay(5, 39, 7);
        due("row(5, 40) anew", x.row(5, 40), 40);
        due(x, "at(5, 39)", x.at(5, 39), 1, 0);
        due("row(5, 2)", x.row(5, 2), 2);
        dueRow(x, "row(5, 2)", 5, 0, 0);
        refuses(x, "row(6, 1)", o -> o.row(6, 1), BAD);
        refuses(x, "row(-1, 1)", o -> o.row(-1, 1), BAD);
        refuses(x, "row(0, 41)", o -> o.row(0, 41), BAD);
        refuses(x, "row(0, most)", o -> o.row(0, MOST), BAD);
        refuses(x, "row(6, -1)", o -> o.row(6, -1), BAD);
        finds(x, "row(5, -1)", o -> o.row(5, -1), SIZE);
        finds(x, "row(5, least)", o -> o.row(5, LEAST), SIZE);

        promise = 3;
        x = new SunRopes();
        finds(x, "lay(0, 0, 1)", o -> o.lay(0, 0, 1), NOTHING);
        x.row(0, 3);
        due(x, "lay(0, 2, -5)", x.lay(0, 2, -5), 1, 0);
        due(x, "lay(0, 2, most)", x.lay(0, 2, MOST), 1, -5);
        due(x, "lay(0, 2, 0)", x.lay(0, 2, 0), 1, MOST);
        refuses(x, "lay(6, 0, 1)", o -> o.lay(6, 0, 1), BAD);
        refuses(x, "lay(-1, 0, 1)", o -> o.lay(-1, 0, 1), BAD);
        finds(x, "lay(0, 3, 1)", o -> o.lay(0, 3, 1), BEYOND);
        finds(x, "lay(0, -1, 1)", o -> o.lay(0, -1, 1), BEYOND);
        finds(x, "lay(0, most, 1)", o -> o.lay(0, MOST, 1), BEYOND);
        finds(x, "lay(1, 9, 1)", o -> o.lay(1, 9, 1), NOTHING);

        promise = 4;
        x.lay(0, 1, 8);
        due(x, "at(0, 1)", x.at(0, 1), 1, 8);
        due(x, "at(0, 0)", x.at(0, 0), 1, 0);
        refuses(x, "at(6, 0)", o -> o.at(6, 0), BAD);
        refuses(x, "at(-1, 0)", o -> o.at(-1, 0), BAD);
        finds(x, "at(1, 0)", o -> o.at(1, 0), NOTHING);
        finds(x, "at(0, 3)", o -> o.at(0, 3), BEYOND);
        finds(x, "at(0, least)", o -> o.at(0, LEAST), BEYOND);

        promise = 5;
        due("tear(0)", x.tear(0), 1);
        finds(x, "tear(0) again", o -> o.tear(0), NOTHING);
        finds(x, "at(0, 0)", o -> o.at(0, 0), NOTHING);
        due("count(6)", x.count(6), 0);
        refuses(x, "tear(6)", o -> o.tear(6), BAD);
        refuses(x, "tear(-1)", o -> o.tear(-1), BAD);
        due("row(0, 3)", x.row(0, 3), 3);
        dueRow(x, "row behind tear", 0, 0, 0, 0);
    }

    private static void copies() {
        promise = 6;
        SunRopes x = new SunRopes();
        lay(x, 0, 1, 2, 3, 4, 5);
        x.row(1, 3);
        due("copy(0, 2, 1, 1, 2)", x.copy(0, 2, 1, 1, 2), 1);
        dueRow(x, "copy", 1, 0, 3, 4);
        due("copy(0, 0, 0, 1, 4)", x.copy(0, 0, 0, 1, 4), 1);
        dueRow(x, "copy on", 0, 1, 1, 2, 3, 4);
        due("copy(0, 1, 0, 0, 4)", x.copy(0, 1, 0, 0, 4), 1);
        dueRow(x, "copy back", 0, 1, 2, 3, 4, 4);
        due("copy(0, 5, 1, 3, 0)", x.copy(0, 5, 1, 3, 0), 1);
        refuses(x, "copy(6, 0, 0, 0, -1)", o -> o.copy(6, 0, 0, 0, -1), BAD);
        refuses(x, "copy(0, 0, -1, 0, 0)", o -> o.copy(0, 0, -1, 0, 0), BAD);
        refuses(x, "copy(0, 0, 6, 0, 0)", o -> o.copy(0, 0, 6, 0, 0), BAD);
        finds(x, "copy(5, 0, 0, 0, -1)", o -> o.copy(5, 0, 0, 0, -1), SIZE);
        finds(x, "copy(5, 9, 0, 0, 0)", o -> o.copy(5, 9, 0, 0, 0), NOTHING);
        finds(x, "copy(0, 9, 5, 0, 0)", o -> o.copy(0, 9, 5, 0, 0), NOTHING);
        finds(x, "copy(0, 4, 1, 0, 2)", o -> o.copy(0, 4, 1, 0, 2), BEYOND);
        finds(x, "copy(0, 0, 1, 2, 2)", o -> o.copy(0, 0, 1, 2, 2), BEYOND);
        finds(x, "copy(0, -1, 1, 0, 1)", o -> o.copy(0, -1, 1, 0, 1), BEYOND);
        finds(x, "copy(0, 0, 1, -1, 1)", o -> o.copy(0, 0, 1, -1, 1), BEYOND);
        finds(x, "copy(0, 6, 1, 0, 0)", o -> o.copy(0, 6, 1, 0, 0), BEYOND);
        finds(x, "copy(0, most, 1, 0, most)", o -> o.copy(0, MOST, 1, 0, MOST), BEYOND);

        promise = 7;
        lay(x, 2, 3, 4);
        due(x, "mean of 3, 4", x.mean(2), 1, 3);
        lay(x, 2, -3, -4);
        due(x, "mean of -3, -4", x.mean(2), 1, -3);
        lay(x, 2, MOST, MOST, MOST - 3);
        due(x, "mean of great ones", x.mean(2), 1, MOST - 1);
        lay(x, 2, LEAST, LEAST);
        due(x, "mean of least ones", x.mean(2), 1, LEAST);
        x.row(2, 40);
        x.lay(2, 39, 80);
        due(x, "mean of 40", x.mean(2), 1, 2);
        x.row(2, 0);
        finds(x, "mean of none", o -> o.mean(2), NOUGHT);
        finds(x, "mean(5)", o -> o.mean(5), NOTHING);
        refuses(x, "mean(6)", o -> o.mean(6), BAD);
        refuses(x, "mean(-1)", o -> o.mean(-1), BAD);
    }

    private static void texts() {
        promise = 8;
        SunRopes x = new SunRopes();
        due("text(3, 60)", x.text(3, 60), 60);
        due("text(0, 0)", x.text(0, 0), 0);
        refuses(x, "text(4, 1)", o -> o.text(4, 1), BAD);
        refuses(x, "text(-1, 1)", o -> o.text(-1, 1), BAD);
        refuses(x, "text(0, 61)", o -> o.text(0, 61), BAD);
        refuses(x, "text(4, -1)", o -> o.text(4, -1), BAD);
        finds(x, "text(0, -1)", o -> o.text(0, -1), SIZE);
        due("put(3, 59, 5)", x.put(3, 59, 5), 1032);
        due("text(3, 60) anew", x.text(3, 60), 60);
        due("put(3, 59, 5)", x.put(3, 59, 5), 1032);

        promise = 9;
        due("put(3, 59, 200)", x.put(3, 59, 200), 1005);
        due("put(3, 59, 256)", x.put(3, 59, 256), 1000 - 56);
        due("put(3, 59, -1)", x.put(3, 59, -1), 1000);
        due("put(3, 59, 128)", x.put(3, 59, 128), 999);
        due("put(3, 59, 127)", x.put(3, 59, 127), 872);
        due("put(3, 59, 0)", x.put(3, 59, 0), 1127);
        refuses(x, "put(4, 0, 0)", o -> o.put(4, 0, 0), BAD);
        refuses(x, "put(-1, 0, 0)", o -> o.put(-1, 0, 0), BAD);
        finds(x, "put(1, 0, 0)", o -> o.put(1, 0, 0), NOTHING);
        finds(x, "put(3, 60, 0)", o -> o.put(3, 60, 0), BEYOND);
        finds(x, "put(3, -1, 0)", o -> o.put(3, -1, 0), BEYOND);
        finds(x, "put(0, 0, 0)", o -> o.put(0, 0, 0), BEYOND);
    }

    private static void dueFault(String text, int fault) {
        SunRopes x = new SunRopes();
        write(x, 2, text);
        long digest = x.digest();
        due("fault of '" + text + "'", x.fault(2), fault);
        due("fault of '" + text + "', digest()", x.digest(), digest);
        if (fault != NONE) {
            refuses(x, "year by '" + text + "'", o -> o.year(2), STATE);
        }
    }

    private static void faults() {
        promise = 10;
        dueFault("c11", NONE);
        dueFault("c00h99s12n34l56", NONE);
        dueFault("   g90   v001  ", NONE);
        dueFault("g90v778d001d079v349", NONE);
        dueFault("", 0);
        dueFault("   ", 3);
        dueFault("x11", 0);
        dueFault("C11", 0);
        dueFault("1", 0);
        dueFault("c", 1);
        dueFault("c1", 2);
        dueFault("c 11", 1);
        dueFault("c1 1", 2);
        dueFault("c1:", 2);
        dueFault("c/1", 1);
        dueFault("c111", 3);
        dueFault("v011", 0);
        dueFault(" d011c11", 1);
        dueFault("c11v", 4);
        dueFault("c11v8", 4);
        dueFault("c11v08", 5);
        dueFault("c11v0", 5);
        dueFault("c11v00", 6);
        dueFault("c11v32", 5);
        dueFault("c11v331", NONE);
        dueFault("c11v330", 6);
        dueFault("c11v 331", 4);
        dueFault("c11v331c11", 7);
        dueFault("c11v331x", 7);
        dueFault("c11 c11 c11 c11 c11 c11", 20);
        dueFault("c11v011v011v011v011 v011", 20);
        dueFault("c11v011v011v011v011", NONE);
        dueFault("c11v0119", 7);
        dueFault("c11".repeat(5) + " ".repeat(45), NONE);
        dueFault("c11" + " ".repeat(56) + "c", 60);
        dueFault("c11" + " ".repeat(55) + "v0", 60);
        dueFault(" ".repeat(60), 60);
        SunRopes x = new SunRopes();
        write(x, 0, "c11");
        x.put(0, 0, 99 + 256);
        due("a letter cut to a byte", x.fault(0), NONE);
        x.put(0, 0, -99);
        due("a byte below 0", x.fault(0), 0);
        refuses(x, "fault(4)", o -> o.fault(4), BAD);
        refuses(x, "fault(-1)", o -> o.fault(-1), BAD);
        finds(x, "fault(1)", o -> o.fault(1), NOTHING);
    }

    private static void years() {
        promise = 11;
        SunRopes x = new SunRopes();
        write(x, 0, "c11 h22 s33 n44 l55 v011 d012");
        due("year(0)", x.year(0), 5);
        due("count(1)", x.count(1), 2);
        x.hold(31);
        x.keep(0);
        x.keep(2);
        x.row(0, 1);
        refuses(x, "year(4)", o -> o.year(4), BAD);
        refuses(x, "year(-1)", o -> o.year(-1), BAD);
        finds(x, "year(1)", o -> o.year(1), NOTHING);
        write(x, 1, "c1");
        refuses(x, "year by a fault", o -> o.year(1), STATE);
        due("count(8) ahead", x.count(8), 2);
        write(x, 1, "g98");
        due("year(1)", x.year(1), 1);
        due(x, "sun()", x.sun(), 0, 0);
        due(x, "gained()", x.gained(), 0, NONE);
        due("count(0)", x.count(0), 1);
        due("count(1)", x.count(1), 0);
        due("count(2)", x.count(2), 0);
        due("count(5)", x.count(5), 1);
        due("count(6)", x.count(6), 1);
        due("count(8)", x.count(8), 0);
        due("on(0)", x.on(0), FINDING);
        due("year(0) again", x.year(0), 5);
        due(x, "valley(0, 4)", x.valley(0, 4), 1, 0);
        due(x, "cape(0, 1)", x.cape(0, 1), 1, 1);
    }

    private static void capes() {
        promise = 12;
        SunRopes x = yearOf("c12 h34 s56 n78 l91 ");
        int[] kinds = {0, 1, 2, 3, 4}, ropes = {1, 3, 5, 7, 9}, crews = {2, 4, 6, 8, 1}, pulls = {1, 1, 2, 1, 1};
        for (int i = 0; i < 5; i++) {
            int c = i;
            due(x, "cape(" + i + ", 0)", x.cape(i, 0), 1, kinds[c]);
            due(x, "cape(" + i + ", 1)", x.cape(i, 1), 1, ropes[c]);
            due(x, "cape(" + i + ", 2)", x.cape(i, 2), 1, crews[c]);
            due(x, "cape(" + i + ", 3)", x.cape(i, 3), 1, pulls[c]);
        }
        refuses(x, "cape(5, 0)", o -> o.cape(5, 0), BAD);
        refuses(x, "cape(-1, 0)", o -> o.cape(-1, 0), BAD);
        refuses(x, "cape(0, 4)", o -> o.cape(0, 4), BAD);
        refuses(x, "cape(0, -1)", o -> o.cape(0, -1), BAD);
        holdTimes(x, 4, 0);
        due(x, "a noon at minute 24", x.cape(3, 3), 1, 0);
        due(x, "a lazy at minute 24", x.cape(4, 3), 1, 0);
        due(x, "a strong at minute 24", x.cape(2, 3), 1, 2);
        holdTimes(x, 4, 0);
        due(x, "a strong, the sun being down", x.cape(2, 3), 1, 0);
        x = yearOf("g91 c09 c90 g09 g90");
        due(x, "a giant's kind", x.cape(0, 0), 1, 5);
        due(x, "a giant's pull", x.cape(0, 3), 1, 2);
        due(x, "without a rope", x.cape(1, 3), 1, 0);
        due(x, "without a crew", x.cape(2, 3), 1, 0);
        due(x, "a giant without a rope", x.cape(3, 3), 1, 0);
        due(x, "a giant without a crew", x.cape(4, 3), 1, 0);

        promise = 13;
        x = yearOf("c99 v136 d574");
        int[] light = {1, 1, 3, 6, 0}, dark = {0, 5, 7, 4, 0};
        for (int what = 0; what <= 4; what++) {
            due(x, "valley(0, " + what + ")", x.valley(0, what), 1, light[what]);
            due(x, "valley(1, " + what + ")", x.valley(1, what), 1, dark[what]);
        }
        holdTimes(x, 3, 0);
        due(x, "valley(0, 4) behind 3 hours", x.valley(0, 4), 1, 12);
        due(x, "valley(1, 4) behind 3 hours", x.valley(1, 4), 1, 12);
        refuses(x, "valley(2, 0)", o -> o.valley(2, 0), BAD);
        refuses(x, "valley(-1, 0)", o -> o.valley(-1, 0), BAD);
        refuses(x, "valley(0, 5)", o -> o.valley(0, 5), BAD);
        refuses(x, "valley(0, -1)", o -> o.valley(0, -1), BAD);
    }

    private static void marks() {
        promise = 14;
        SunRopes x = yearOf("h11 s11 n11 l04 g91");
        due("a hair at place 0", x.mark(0, 1), 1);
        due("a strong among three weaker ones", x.mark(1, 2), 3);
        due("a giant as a strong", x.mark(4, 2), 3);
        due("a noon at minute 0", x.mark(2, 3), 24);
        due("a lazy as a noon", x.mark(3, 3), 24);
        due("a lazy with a crew of 4", x.mark(3, 4), 3);
        due("a giant with a rope of 9", x.mark(4, 5), 9);
        int[][] unlike = {{0, 2}, {0, 3}, {0, 4}, {0, 5}, {1, 1}, {1, 3}, {1, 4}, {1, 5}, {2, 1}, {2, 2}, {2, 4}, {2, 5},
            {3, 1}, {3, 2}, {3, 5}, {4, 1}, {4, 3}, {4, 4}};
        for (int[] u : unlike) finds(x, "mark(" + u[0] + ", " + u[1] + ")", o -> o.mark(u[0], u[1]), UNLIKE);
        refuses(x, "mark(0, 0)", o -> o.mark(0, 0), BAD);
        refuses(x, "mark(0, 6)", o -> o.mark(0, 6), BAD);
        refuses(x, "mark(0, -1)", o -> o.mark(0, -1), BAD);
        refuses(x, "mark(5, 1)", o -> o.mark(5, 1), BAD);
        refuses(x, "mark(-1, 1)", o -> o.mark(-1, 1), BAD);
        int asked = x.asked();
        x.mark(4, 5);
        due("mark() tells nothing by asked()", x.asked(), asked);
        x.hold(0);
        due("a hair at place 1", x.mark(0, 1), 0);
        due("a noon at minute 6", x.mark(2, 3), 18);
        due("a lazy with a crew of 6", x.mark(3, 4), 2);
        holdTimes(x, 3, 0);
        due("a noon at minute 24", x.mark(2, 3), 0);
        due("a lazy with a crew of 9", x.mark(3, 4), 0);
        due("a hair at place 4", x.mark(0, 1), 1);
        holdTimes(x, 4, 0);
        due("a hair, the sun being down at an even place", x.mark(0, 1), 0);
        due("a noon, the sun being down", x.mark(2, 3), 0);
        x = yearOf("g70 l00 l08 h00");
        due("a giant without a crew", x.mark(0, 5), 0);
        x = yearOf("c01 g30 g20 l10 l18");
        due("a giant without a crew behind others", x.mark(1, 5), 0);
        due("another one", x.mark(2, 5), 0);
        x = yearOf("g70 l00 l08 h00");
        due("a lazy with a crew of 0", x.mark(1, 4), 5);
        due("a lazy with a crew of 8", x.mark(2, 4), 1);
        due("a hair without a rope", x.mark(3, 1), 1);
        x = yearOf("s11 g11");
        due("a strong among strong ones", x.mark(0, 2), 0);

        promise = 15;
        x = yearOf("c99 v079 d001");
        due("price(0, 0)", x.price(0, 0), 9);
        due("price(0, 3)", x.price(0, 3), 0);
        due(x, "valley(0, 3)", x.valley(0, 3), 1, 3);
        due(x, "valley(1, 3)", x.valley(1, 3), 1, 1);
        x.hold(0);
        due(x, "valley(0, 4)", x.valley(0, 4), 1, 3);
        due("price(0, 9)", x.price(0, 9), 3);
        due(x, "valley(0, 4) stays", x.valley(0, 4), 1, 3);
        due("prices are no deeds", x.count(2), 1);
        refuses(x, "price(2, 1)", o -> o.price(2, 1), BAD);
        refuses(x, "price(-1, 1)", o -> o.price(-1, 1), BAD);
        refuses(x, "price(0, 10)", o -> o.price(0, 10), BAD);
        refuses(x, "price(0, -1)", o -> o.price(0, -1), BAD);
    }

    // ---- 2 hours

    private static void hours() {
        promise = 16;
        SunRopes x = yearOf("c31 h33 s22 l35 g94 v005 v113 d001 d662");
        due(x, "hold(3)", x.hold(3), 4, 3);
        due(x, "sun()", x.sun(), 4, 2);
        dueCape(x, 0, 2, 0);
        dueCape(x, 1, 2, 2);
        dueCape(x, 2, 2, 3);
        dueCape(x, 3, 3, 7);
        dueCape(x, 4, 9, 5);
        due(x, "all pull but one without a crew", x.hold(31), 1, 30);
        due(x, "sun()", x.sun(), 5, 7);
        dueCape(x, 0, 2, 1);
        dueCape(x, 1, 1, 1);
        dueCape(x, 2, 1, 2);
        dueCape(x, 3, 2, 6);
        dueCape(x, 4, 8, 5);
        due(x, "two lurch", x.hold(6), 7, 6);
        due(x, "sun()", x.sun(), 12, 10);
        dueCape(x, 1, 0, 0);
        dueCape(x, 2, 0, 1);
        dueCape(x, 3, 2, 8);
        due(x, "valley 0 gained thrice", x.valley(0, 4), 1, 15);
        due(x, "valley 1 gained nothing", x.valley(1, 4), 1, 0);
        due(x, "valley 2 gained nothing", x.valley(2, 4), 1, 0);
        due(x, "valley 3 gained thrice", x.valley(3, 4), 1, 6);
        refuses(x, "hold(32)", o -> o.hold(32), BAD);
        refuses(x, "hold(-1)", o -> o.hold(-1), BAD);
        refuses(x, "hold(least)", o -> o.hold(LEAST), BAD);
        SunRopes none = new SunRopes();
        refuses(none, "hold(1) without capes", o -> o.hold(1), BAD);
        refuses(none, "hold(0) without capes", o -> o.hold(0), STATE);

        x = yearOf("h19 v119 d112");
        due(x, "a hair at an even place burns and lurches", x.hold(1), 7, 1);
        due(x, "without a rope it can't", x.hold(1), 6, 0);
        x = yearOf("h19 v119 d112");
        x.hold(0);
        due(x, "a hair at an odd place burns not", x.hold(1), 5, 1);
        dueCape(x, 0, 1, 8);
        due(x, "light at place 1", x.valley(0, 4), 1, 9);
        due(x, "dark at place 0 alone", x.valley(1, 4), 1, 2);

        x = yearOf("n99 l97 g99 c98 d072");
        holdTimes(x, 3, 0);
        due(x, "noons below 24", x.hold(7), 2, 7);
        due(x, "noons at minute 20", x.hold(3), 4, 3);
        due(x, "no noons at minute 24", x.hold(3), 6, 0);
        dueCape(x, 0, 7, 8);
        dueCape(x, 1, 7, 9);
        due(x, "dark gains nothing by day", x.gained(), 0, 0);
        holdTimes(x, 3, 0);
        due(x, "down at minute 48", x.count(4), 1, 0);
        due(x, "hold, the sun being down", x.hold(15), 0, 0);
        due(x, "sun()", x.sun(), 48, 4 + 2);
        dueCape(x, 2, 8, 9);
        due(x, "dark has it when it is down", x.gained(), 2, 0);

        x = yearOf("c00");
        holdTimes(x, 60, 1);
        due("deeds", x.count(2), 60);
        refuses(x, "hold behind 60 deeds", o -> o.hold(0), FULL);
        refuses(x, "hold(2) behind 60 deeds", o -> o.hold(2), BAD);
        refuses(x, "rope behind 60 deeds", o -> o.rope(0, 1), FULL);
        refuses(x, "rope(1, 1) behind 60 deeds", o -> o.rope(1, 1), BAD);
        refuses(x, "rise behind 60 deeds", o -> o.rise(), FULL);
        refuses(x, "lots behind 60 deeds", o -> o.lots(1, 1), FULL);

        x = yearOf("c00");
        for (int k = 0; k < 60; k++) x.rope(0, 1);
        refuses(x, "rise by day behind 60 deeds", o -> o.rise(), STATE);
        refuses(x, "hold by day behind 60 deeds", o -> o.hold(1), FULL);

        x = yearOf("s99 s99 s99 c99");
        due(x, "a minute at least", x.hold(15), 1, 15);
        due(x, "five owed at most", x.sun(), 1, 5);
    }

    private static void newRopes() {
        promise = 17;
        SunRopes x = yearOf("c09 s50");
        due("rope(0, 9)", x.rope(0, 9), 0);
        due("rope(0, 1)", x.rope(0, 1), 9);
        due("rope(1, 3)", x.rope(1, 3), 5);
        dueCape(x, 0, 1, 9);
        dueCape(x, 1, 3, 0);
        due("deeds", x.count(2), 3);
        due(x, "it can pull", x.hold(3), 7, 1);
        int asked = x.asked();
        due("rope(0, 2)", x.rope(0, 2), 0);
        due("rope() tells nothing by asked()", x.asked(), asked);
        refuses(x, "rope(2, 1)", o -> o.rope(2, 1), BAD);
        refuses(x, "rope(-1, 1)", o -> o.rope(-1, 1), BAD);
        refuses(x, "rope(0, 0)", o -> o.rope(0, 0), BAD);
        refuses(x, "rope(0, 10)", o -> o.rope(0, 10), BAD);
        holdTimes(x, 9, 0);
        due("rope, the sun being down", x.rope(0, 5), 2);
    }

    private static void winters() {
        promise = 18;
        SunRopes x = yearOf("g99 g99 g99");
        refuses(x, "rise by day", o -> o.rise(), STATE);
        refuses(new SunRopes(), "rise without capes", o -> o.rise(), STATE);
        holdTimes(x, 2, 7);
        holdTimes(x, 7, 0);
        due(x, "sun()", x.sun(), 44, 10);
        refuses(x, "rise at minute 44", o -> o.rise(), STATE);
        x.hold(0);
        due("rise() pays one of 10", x.rise(), 6);
        due(x, "sun()", x.sun(), 6, 4);
        due("deeds", x.count(2), 11);
        holdTimes(x, 7, 0);
        due("rise() pays none of 4", x.rise(), 0);
        due(x, "sun()", x.sun(), 0, 4);
        x = yearOf("g99 g99 g99 g99");
        holdTimes(x, 9, 7);
        due(x, "9 hours, three lurch", x.sun(), 15, 45);
        holdTimes(x, 6, 0);
        due("rise() pays 7 times 6 at most", x.rise(), 42);
        due(x, "sun()", x.sun(), 42, 3);
        due("undo(15)", x.undo(15), 1);
        due(x, "the rise is undone", x.sun(), 51, 45);
        dueCape(x, 3, 9, 9);
    }

    private static void undone() {
        promise = 19;
        SunRopes x = yearOf("c39 s22 v073");
        long start = x.digest();
        x.hold(3);
        long second = x.digest();
        x.rope(1, 7);
        x.hold(2);
        due("undo(1)", x.undo(1), 2);
        due("as it was", x.digest(), second);
        due("undo(1) again", x.undo(1), 0);
        refuses(x, "undo(2)", o -> o.undo(2), BAD);
        refuses(x, "undo(-1)", o -> o.undo(-1), BAD);
        refuses(x, "undo(most)", o -> o.undo(MOST), BAD);
        due("undo(0)", x.undo(0), 1);
        due("as it was at first", x.digest(), start);
        x.price(0, 8);
        x.hold(0);
        x.price(0, 2);
        due("undo(0)", x.undo(0), 1);
        due(x, "worths stay", x.valley(0, 3), 1, 2);
        due(x, "gains do not", x.valley(0, 4), 1, 0);
        x.lots(20, 5);
        due("undo(3) of lots", x.undo(3), 17);
        x = yearOf("c39 s22 v073");
        start = x.digest();
        due("undo(0), no deed being done", x.undo(0), 0);
        due("nothing is changed", x.digest(), start);
        x.hold(3);
        second = x.digest();
        due("undo(1) behind one deed", x.undo(1), 0);
        due("nothing is changed", x.digest(), second);
        due("undo(0) without capes", new SunRopes().undo(0), 0);
        refuses(new SunRopes(), "undo(1) without capes", o -> o.undo(1), BAD);
        x = yearOf("c00");
        holdTimes(x, 60, 0);
        due("undo(0) of 60", x.undo(0), 60);
        due(x, "sun()", x.sun(), 0, 0);

        promise = 20;
        x = yearOf("c99");
        due(x, "sun() at first", x.sun(), 0, 0);
        x.hold(1);
        due(x, "sun()", x.sun(), 5, 1);
        refuses(new SunRopes(), "sun() without capes", o -> o.sun(), STATE);

        promise = 21;
        x = yearOf("c99 v001 v003 d112 v003");
        due(x, "gained() at first", x.gained(), 0, 0);
        x.hold(0);
        due(x, "gained(), the first of alike ones", x.gained(), 9, 1);
        x.hold(0);
        x.hold(0);
        due(x, "gained()", x.gained(), 11, 2);
        x = yearOf("c99");
        due(x, "gained() without valleys", x.gained(), 0, NONE);
        x = new SunRopes();
        due(x, "gained() without capes", x.gained(), 0, NONE);
    }

    private static void keptYears() {
        promise = 22;
        SunRopes x = yearOf("c39 s22 v073");
        refuses(x, "keep(3)", o -> o.keep(3), BAD);
        refuses(x, "keep(-1)", o -> o.keep(-1), BAD);
        refuses(new SunRopes(), "keep(0) without capes", o -> o.keep(0), STATE);
        refuses(new SunRopes(), "keep(3) without capes", o -> o.keep(3), BAD);
        due("keep(0)", x.keep(0), 0);
        x.hold(3);
        x.price(0, 5);
        due("keep(1)", x.keep(1), 1);
        due("keep(2)", x.keep(2), 1);
        due("count(8)", x.count(8), 3);
        long one = x.digest();
        x.price(0, 7);
        x.lots(20, 99);

        promise = 23;
        due("on(1)", x.on(1), 1);
        due("as it was kept", x.digest(), one);
        due(x, "worths too", x.valley(0, 3), 1, 5);
        due(x, "gains too", x.valley(0, 4), 1, 3);
        x.hold(1);
        due("undo(0) goes into what was kept", x.undo(0), 2);
        due(x, "sun()", x.sun(), 0, 0);
        dueCape(x, 0, 3, 9);
        dueCape(x, 1, 2, 2);
        due("on(1) again", x.on(1), 1);
        due("as it was kept", x.digest(), one);
        due("on(0)", x.on(0), 0);
        due(x, "worths of then", x.valley(0, 3), 1, 3);
        due("keep(1) anew", x.keep(1), 0);
        due("on(2)", x.on(2), 1);
        due("on(1)", x.on(1), 0);
        refuses(x, "on(3)", o -> o.on(3), BAD);
        refuses(x, "on(-1)", o -> o.on(-1), BAD);
        SunRopes y = yearOf("c11");
        finds(y, "on(0), nothing kept", o -> o.on(0), NOTHING);
        holdTimes(y, 60, 1);
        y.keep(0);
        y.undo(0);
        due("on(0) with 60 deeds", y.on(0), 60);
        due("undo(1)", y.undo(1), 59);
        due(y, "sun()", y.sun(), 7, 1);
        x = yearOf("s99 c99 v009");
        x.hold(1);
        x.hold(2);
        x.keep(0);
        long two = x.digest();
        x.undo(0);
        x.rope(0, 3);
        holdTimes(x, 5, 3);
        due("on(0) behind other deeds", x.on(0), 2);
        due("as it was kept", x.digest(), two);
        due("undo(1)", x.undo(1), 1);
        due(x, "the first of the kept deeds", x.sun(), 4, 2);
        dueCape(x, 0, 8, 8);
        y = yearOf("c99 v079");
        holdTimes(y, 59, 0);
        y.rope(0, 4);
        y.keep(0);
        y.undo(3);
        due("on(0) with 60 deeds", y.on(0), 60);
        dueCape(y, 0, 4, 9);
        due(y, "sun()", y.sun(), 48, 0);
    }

    // ---- 3 plans (aside)

    private static void refusesPlans(String name, java.util.function.ToIntBiFunction<SunRopes, Integer> call) {
        SunRopes x = yearOf("c11 c11");
        refuses(x, name + "(6)", o -> call.applyAsInt(o, 6), BAD);
        refuses(x, name + "(-1)", o -> call.applyAsInt(o, -1), BAD);
        finds(x, name + " of a missing row", o -> call.applyAsInt(o, 0), NOTHING);
        x.row(0, 13);
        x.lay(0, 0, 4);
        finds(x, name + " of 13 hours", o -> call.applyAsInt(o, 0), SIZE);
        lay(x, 0, 1, 4);
        finds(x, name + " of no set", o -> call.applyAsInt(o, 0), UNLIKE);
        lay(x, 0, -1);
        finds(x, name + " of a set below 0", o -> call.applyAsInt(o, 0), UNLIKE);
        refuses(new SunRopes(), name + "(6) without capes", o -> call.applyAsInt(o, 6), BAD);
        refuses(new SunRopes(), name + "(0) without capes", o -> call.applyAsInt(o, 0), STATE);
    }

    private static void plans() {
        promise = 24;
        refusesPlans("run", (x, r) -> x.run(r));
        SunRopes x = yearOf("c29 s19 v004 d012");
        lay(x, 0, 3, 1, 0, 0, 0);
        long digest = x.digest();
        // 5 (a lurch), 5 + 7 (a lurch) = 12, 18, 24, 30: light at 0, 5; dark at 12, 18, 24.
        due(x, "run(0)", x.run(0), 8 + 6, 30);
        due("nothing is done", x.digest(), digest);
        x.row(0, 0);
        due(x, "run of none", x.run(0), 0, 0);
        x.row(0, 12);
        due(x, "run of 12", x.run(0), 4 + 10 * 2, 48);
        x.hold(0);
        lay(x, 0, 0);
        due(x, "run from as it is", x.run(0), 0, 12);
        x.price(1, 7);
        x.hold(0);
        due(x, "run with a new worth", x.run(0), 7, 18);
        x = yearOf("c11 v072 v073 v074 v075");
        lay(x, 0, 0, 9);
        x.best(1, 0);
        due(x, "run of four valleys, no set being behind the row's end", x.run(0), 14, 6);
        write(x, 0, "c11 v072");
        x.year(0);
        due(x, "run of one valley behind four", x.run(0), 2, 6);

        promise = 25;
        refusesPlans("burns", (y, r) -> y.burns(r));
        x = yearOf("c29 s29 h19");
        lay(x, 0, 4 | 1, 3, 2);
        due(x, "a hair burns at once", x.burns(0), 0, 4);
        lay(x, 0, 3, 0, 3, 3);
        due(x, "two burn in hour 2", x.burns(0), 2, 3);
        lay(x, 0, 0, 4, 0);
        due("a hair at an odd place burns not", x.burns(0), NONE);
        due("asked() stays", x.asked(), 0);
        lay(x, 0, 1);
        x.at(0, 0);
        due(x, "none burns", x.burns(0), NONE, 1);
        x.row(0, 0);
        due("burns of none", x.burns(0), NONE);
        x = yearOf("c11");
        lay(x, 0, 0, 1);
        x.best(1, 0);
        due("a set behind the row's end burns none", x.burns(0), NONE);
    }

    private static void searched() {
        promise = 26;
        SunRopes x = yearOf("c99 g99 v009 d225");
        // Held by both the sun is at 3 behind an hour, at 6 behind two: 14, 14, then 5 at place 1;
        // with 1 in the first hour: at 5, then at 8; one hour of 3, one of 2 (at 3, at 7): no more.
        due("best(3, 0)", x.best(3, 0), 14 + 14 + 5);
        dueRow(x, "best(3, 0)", 0, 1, 0, 0);
        due("best(2, 0)", x.best(2, 0), 28);
        dueRow(x, "best(2, 0)", 0, 1, 0);
        due("best(1, 5)", x.best(1, 5), 14);
        dueRow(x, "best(1, 5)", 5, 0);
        due("best(0, 0)", x.best(0, 0), 0);
        dueRow(x, "best(0, 0)", 0);
        due("best() tells nothing by asked()", x.asked(), 0);
        due(x, "nothing is done", x.sun(), 0, 0);
        x = yearOf("g99 g99 v009");
        due("twice held well", x.best(3, 0), 27);
        dueRow(x, "twice held well", 0, 3, 3, 0);
        refuses(x, "best(4, 0)", o -> o.best(4, 0), BAD);
        refuses(x, "best(-1, 0)", o -> o.best(-1, 0), BAD);
        refuses(x, "best(0, 6)", o -> o.best(0, 6), BAD);
        refuses(x, "best(0, -1)", o -> o.best(0, -1), BAD);
        refuses(new SunRopes(), "best(0, 0) without capes", o -> o.best(0, 0), STATE);
        refuses(new SunRopes(), "best(4, 0) without capes", o -> o.best(4, 0), BAD);

        promise = 27;
        x = yearOf("c19 s29 n91");
        // The first may not pull (it lurches), the second once; the third once, twice if it rests once.
        due("slowest(1, 2)", x.slowest(1, 2), 3);
        dueRow(x, "slowest(1, 2)", 2, 6);
        due("slowest(2, 2)", x.slowest(2, 2), 3 + 6);
        dueRow(x, "slowest(2, 2)", 2, 0, 6);
        due("slowest(3, 2)", x.slowest(3, 2), 6 + 5 + 3);
        dueRow(x, "slowest(3, 2)", 2, 0, 4, 6);
        due("slowest(0, 2)", x.slowest(0, 2), 0);
        dueRow(x, "slowest(0, 2)", 2);
        due(x, "nothing is done", x.sun(), 0, 0);
        x = yearOf("s11");
        holdTimes(x, 8, 0);
        due("slowest, the sun being down", x.slowest(2, 0), 48);
        dueRow(x, "slowest, the sun being down", 0, 0, 0);
        refuses(x, "slowest(4, 0)", o -> o.slowest(4, 0), BAD);
        refuses(x, "slowest(-1, 0)", o -> o.slowest(-1, 0), BAD);
        refuses(x, "slowest(0, 6)", o -> o.slowest(0, 6), BAD);
        refuses(x, "slowest(0, -1)", o -> o.slowest(0, -1), BAD);
        refuses(new SunRopes(), "slowest(0, 0) without capes", o -> o.slowest(0, 0), STATE);
    }

    private static void lasting() {
        promise = 28;
        SunRopes x = yearOf("g99 s21 c11");
        due("down(0)", x.down(0), 8);
        // 9 hours of 4 minutes, the last one with a lurch: at 38; then 44, 50.
        due("down(1)", x.down(1), 11);
        // It pulls, rests, pulls and lurches: at 4, 10, 16 (4 and 2); then 22, 28, 34, 40, 46, 52.
        due("down(2)", x.down(2), 9);
        // 7 at once, then 13, 19, 25, 31, 37, 43, 49.
        due("down(4)", x.down(4), 8);
        holdTimes(x, 7, 0);
        due("down(0) at 42", x.down(0), 1);
        x.hold(0);
        due("down(0), the sun being down", x.down(0), 0);
        refuses(x, "down(8)", o -> o.down(8), BAD);
        refuses(x, "down(-1)", o -> o.down(-1), BAD);
        refuses(new SunRopes(), "down(1) without capes", o -> o.down(1), BAD);
        refuses(new SunRopes(), "down(0) without capes", o -> o.down(0), STATE);

        promise = 29;
        x = yearOf("c11 g99");
        // 0: 8; 1: 8; 2: 11; 3: at 5 at once (3 and 2), 8 hours of 4, the last with 2: 39; 45, 51: 11.
        due(x, "longest()", x.longest(), 2, 11);
        due(x, "nothing is done", x.sun(), 0, 0);
        holdTimes(x, 8, 0);
        due(x, "longest(), the sun being down", x.longest(), 0, 0);
        x = yearOf("c00");
        due(x, "longest() by none", x.longest(), 0, 8);
        x = yearOf("g99 g99");
        // 8 hours of 2 and one of 6 (two lurches): at 22; 28, 34, 40, 46, 52. By one: 11.
        due(x, "longest() by all", x.longest(), 3, 14);
        refuses(new SunRopes(), "longest() without capes", o -> o.longest(), STATE);
    }

    private static void fewest() {
        promise = 30;
        refusesPlans("ropes", (y, r) -> y.ropes(r));
        SunRopes x = yearOf("g19 g09 g39 h19");
        lay(x, 0, 1, 4);
        due(x, "one rope", x.ropes(0), 1, 1);
        lay(x, 0, 2, 2);
        due(x, "one without a rope pulls nothing", x.ropes(0), 0, 0);
        lay(x, 0, 1, 4, 4, 4);
        due(x, "two ropes", x.ropes(0), 2, 5);
        lay(x, 0, 0, 8);
        due(x, "a hair at an odd place", x.ropes(0), 0, 0);
        lay(x, 0, 1, 1, 1, 1, 1, 1, 1, 1);
        due(x, "8 hours", x.ropes(0), 1, 1);
        lay(x, 0, 1, 1, 1, 1, 1, 1, 1, 1, 1);
        x.at(0, 0);
        due(x, "9 hours", x.ropes(0), NONE, 1);
        x.row(0, 0);
        due(x, "no hours", x.ropes(0), 0, 0);
        dueCape(x, 0, 1, 9);
        // At 3, 9, 15, 21 if the strong one's rope is new: then the noon pulls again and lurches.
        x = yearOf("n29 s13");
        lay(x, 0, 3, 0, 0, 0, 1);
        due(x, "new ropes for both", x.ropes(0), 2, 3);
        // With two lurches at 7, 13, 19, 25: no second pull of the noon. Without, at 21: it lurches, too.
        x = yearOf("n29 c10 c11 c11");
        lay(x, 0, 13, 0, 0, 0, 1);
        due(x, "new ropes for two that lurch, then for the noon", x.ropes(0), 3, 13);
        // The noon pulls at 23, or at 24 and later not at all.
        x = yearOf("n19 c90");
        lay(x, 0, 0, 0, 0, 0, 1);
        due(x, "a noon at noon needs none", x.ropes(0), 0, 0);
        lay(x, 0, 0, 2, 0, 0, 1);
        due(x, "a noon ahead of noon needs one", x.ropes(0), 1, 1);
        // The hair burns at 12; with a new rope of the other one the sun is at 11, an odd place.
        x = yearOf("c05 h19");
        lay(x, 0, 1, 0, 2);
        due(x, "either of two: the least", x.ropes(0), 1, 1);
        x = yearOf("c19 c19 c19 c19 c19");
        lay(x, 0, 31);
        due(x, "all five", x.ropes(0), 5, 31);
    }

    // ---- 4 lurches, votes

    private static void loosed() {
        promise = 31;
        SunRopes x = yearOf("g00 c00 s00 l00 h00");
        due("loose(31, 0)", x.loose(31, 0), 1 * 4 + 1 * 3 + 1 * 2 + 2 * 1);
        dueRow(x, "loose(31, 0)", 0, 1, 3, 4, 0, 2);
        due("loose(5, 0)", x.loose(5, 0), 2);
        dueRow(x, "loose(5, 0)", 0, 0, 2);
        due("loose(9, 0)", x.loose(9, 0), 1);
        dueRow(x, "loose(9, 0)", 0, 3, 0);
        due("loose(1, 5)", x.loose(1, 5), 0);
        dueRow(x, "loose(1, 5)", 5, 0);
        due("loose(0, 0)", x.loose(0, 0), 0);
        dueRow(x, "loose(0, 0)", 0);
        refuses(x, "loose(32, 0)", o -> o.loose(32, 0), BAD);
        refuses(x, "loose(-1, 0)", o -> o.loose(-1, 0), BAD);
        refuses(x, "loose(0, 6)", o -> o.loose(0, 6), BAD);
        refuses(x, "loose(0, -1)", o -> o.loose(0, -1), BAD);
        SunRopes none = new SunRopes();
        refuses(none, "loose(1, 0) without capes", o -> o.loose(1, 0), BAD);
        due("loose(0, 0) without capes", none.loose(0, 0), 0);
        due("a row of none is there", none.count(6), 1);
    }

    private static void voted() {
        promise = 32;
        SunRopes x = yearOf("c99 s19 v001 d005 v113 d112");
        // By 1 the sun is at 5 behind an hour, by 0 at 6, by 2 (4 and 2) at 6, by 3 (3 and 2) at 5.
        due(x, "votes(1, 0)", x.votes(1, 0), 2, 1 | 8);
        due(x, "votes(0, 1)", x.votes(0, 1), 2, 2 | 4);
        due(x, "votes(2, 0)", x.votes(2, 0), 0, 0);
        due(x, "votes(3, 2)", x.votes(3, 2), 2, 1 | 8);
        due(x, "votes(1, 1)", x.votes(1, 1), 0, 0);
        x.price(0, 0);
        due(x, "votes(1, 0) by a new worth", x.votes(1, 0), 1, 8);
        due(x, "nothing is done", x.sun(), 0, 0);
        refuses(x, "votes(4, 0)", o -> o.votes(4, 0), BAD);
        refuses(x, "votes(0, 4)", o -> o.votes(0, 4), BAD);
        refuses(x, "votes(-1, 0)", o -> o.votes(-1, 0), BAD);
        refuses(x, "votes(0, -1)", o -> o.votes(0, -1), BAD);
        refuses(new SunRopes(), "votes(0, 1) without capes", o -> o.votes(0, 1), BAD);
        refuses(new SunRopes(), "votes(0, 0) without capes", o -> o.votes(0, 0), STATE);

        promise = 33;
        due("two for each but 1 and 3, worth 0 aside", x.choice(), 0);
        x.price(0, 9);
        x.price(2, 0);
        due("then by 1", x.choice(), 1);
        x.price(3, 0);
        x.at(0, 0);
        int asked = x.asked();
        due("one against one", x.choice(), 0);
        due("choice() tells nothing by asked()", x.asked(), asked);
        due("without valleys", yearOf("s99").choice(), 0);
        // From 4 on two that lurch bring the sun to 12, all else to place 1. (A valley either gains its
        // worth in the second hour or not, so that the set with most friends is never beaten.)
        x = yearOf("c13 c13 g99 g99 v009 d003 v225 d119");
        x.hold(4);
        due("two that lurch", x.choice(), 3);
        x = yearOf("s99 s99 v009");
        x.hold(3);
        due("all must hold", x.choice(), 3);
        refuses(new SunRopes(), "choice() without capes", o -> o.choice(), STATE);
    }

    private static void shared() {
        promise = 34;
        SunRopes x = yearOf("c99 v003 v114 d005");
        // By 0: 3, 4, 5; by 1 (at 5): 6, 0, 0. Together by 0: 12; of 0 and 1: 7.
        lay(x, 0, 6, 4, 5);
        due(x, "parts that nobody leaves", x.parts(0), 1, NONE);
        lay(x, 0, 6, 4, 4);
        due(x, "valley 2 leaves", x.parts(0), 0, 4);
        lay(x, 0, 5, 9, 9);
        due(x, "valley 0 leaves", x.parts(0), 0, 1);
        lay(x, 0, 6, 3, 9);
        due(x, "valley 1 leaves", x.parts(0), 0, 2);
        lay(x, 0, MOST, MOST, MOST);
        due(x, "parts too great for an int together", x.parts(0), 1, NONE);
        lay(x, 0, LEAST, LEAST, MOST);
        due(x, "parts below 0", x.parts(0), 0, 1);
        due(x, "nothing is done", x.sun(), 0, 0);
        x = yearOf("c99 v003 v003");
        lay(x, 0, 6, 6);
        due(x, "two together", x.parts(0), 1, NONE);
        lay(x, 0, 7, 5);
        due(x, "two together have enough, one has not", x.parts(0), 0, 2);
        x.price(1, 0);
        lay(x, 0, 6, 0);
        due(x, "a worth of 0 asks no part", x.parts(0), 1, NONE);
        x.row(1, 3);
        finds(x, "parts of three", o -> o.parts(1), SIZE);
        x.row(1, 1);
        finds(x, "parts of one", o -> o.parts(1), SIZE);
        finds(x, "parts(2)", o -> o.parts(2), NOTHING);
        refuses(x, "parts(6)", o -> o.parts(6), BAD);
        refuses(x, "parts(-1)", o -> o.parts(-1), BAD);
        refuses(new SunRopes(), "parts(6) without capes", o -> o.parts(6), BAD);
        refuses(new SunRopes(), "parts(0) without capes", o -> o.parts(0), STATE);
        x = yearOf("c99");
        x.row(0, 0);
        due(x, "parts of no valleys", x.parts(0), 1, NONE);
    }

    // ---- 5 what was

    private static void fitting() {
        promise = 35;
        SunRopes x = yearOf("c99 c99 s99");
        lay(x, 0, 4);
        due("two ways to 4", x.fits(7, 0, 1), 2);
        dueRow(x, "two ways to 4", 1, 3);
        due("by the strong one alone", x.fits(4, 0, 1), 1);
        dueRow(x, "by the strong one alone", 1, 4);
        lay(x, 0, 5, 8);
        // One of two holds, then the strong one and one of two.
        due("four ways to 5, 8", x.fits(7, 0, 1), 4);
        dueRow(x, "four ways to 5, 8", 1, 1, 5);
        lay(x, 0, 6, 10, 16);
        due("two ways to 6, 10, 16", x.fits(7, 0, 1), 2);
        dueRow(x, "two ways to 6, 10, 16", 1, 0, 3, 0);
        lay(x, 0, 1);
        due("no way", x.fits(7, 0, 1), 0);
        dueRow(x, "that row stays", 1, 0, 3, 0);
        due("no way, a missing row", x.fits(7, 0, 2), 0);
        finds(x, "it is missing still", o -> o.at(2, 0), NOTHING);
        lay(x, 0, 3, 7);
        due("into the row itself", x.fits(7, 0, 0), 4);
        dueRow(x, "into the row itself", 0, 5, 3);
        x.row(0, 0);
        due("no minutes", x.fits(7, 0, 1), 1);
        dueRow(x, "no minutes", 1);
        due(x, "nothing is done", x.sun(), 0, 0);
        x.row(0, 4);
        finds(x, "fits of 4", o -> o.fits(7, 0, 1), SIZE);
        finds(x, "fits of a missing row", o -> o.fits(7, 3, 1), NOTHING);
        refuses(x, "fits(8, 0, 1)", o -> o.fits(8, 0, 1), BAD);
        refuses(x, "fits(-1, 0, 1)", o -> o.fits(-1, 0, 1), BAD);
        refuses(x, "fits(0, 6, 1)", o -> o.fits(0, 6, 1), BAD);
        refuses(x, "fits(0, -1, 1)", o -> o.fits(0, -1, 1), BAD);
        refuses(x, "fits(0, 0, 6)", o -> o.fits(0, 0, 6), BAD);
        refuses(x, "fits(0, 0, -1)", o -> o.fits(0, 0, -1), BAD);
        refuses(new SunRopes(), "fits(0, 0, 0) without capes", o -> o.fits(0, 0, 0), STATE);
        x = yearOf("c09 c99");
        lay(x, 0, 6);
        due("one that can't pull may hold", x.fits(3, 0, 1), 2);
        dueRow(x, "one that can't pull may hold", 1, 0);

        promise = 36;
        x = yearOf("c99 c99 s99");
        lay(x, 0, 4);
        due("either the two or the strong one", x.slipped(7, 0), 0);
        due("of the two and the strong one", x.slipped(5, 0), 1);
        lay(x, 0, 3, 5);
        due("one of two, then none", x.slipped(7, 0), 0);
        lay(x, 0, 2, 6);
        due("none, then the two or the strong one", x.slipped(7, 0), 0);
        lay(x, 0, 2, 8);
        due("none, then all", x.slipped(7, 0), 7);
        lay(x, 0, 6, 8);
        due("all, then none", x.slipped(7, 0), 7);
        lay(x, 0, 2, 4);
        due("none slipped", x.slipped(7, 0), 0);
        lay(x, 0, 1);
        due("none fits", x.slipped(7, 0), 0);
        x.row(0, 0);
        due("no minutes", x.slipped(7, 0), 0);
        lay(x, 0, 5);
        due("one of two, not the strong one", x.slipped(7, 0), 4);
        dueRow(x, "the row stays", 0, 5);
        x.row(0, 4);
        finds(x, "slipped of 4", o -> o.slipped(7, 0), SIZE);
        finds(x, "slipped of a missing row", o -> o.slipped(7, 3), NOTHING);
        refuses(x, "slipped(8, 0)", o -> o.slipped(8, 0), BAD);
        refuses(x, "slipped(-1, 0)", o -> o.slipped(-1, 0), BAD);
        refuses(x, "slipped(0, 6)", o -> o.slipped(0, 6), BAD);
        refuses(x, "slipped(0, -1)", o -> o.slipped(0, -1), BAD);
        refuses(new SunRopes(), "slipped(0, 0) without capes", o -> o.slipped(0, 0), STATE);
        x = yearOf("c09 c99");
        lay(x, 0, 6);
        due("one that can't pull need not have slipped", x.slipped(3, 0), 2);
    }

    // ---- 6 chances, lots

    private static void chances() {
        promise = 37;
        SunRopes x = yearOf("c99 c99 s99");
        dueChance(x, "odds(1, 1, 6)", x.odds(1, 1, 6), 1, 2);
        dueChance(x, "odds(1, 1, 5)", x.odds(1, 1, 5), 1, 1);
        dueChance(x, "odds(1, 1, 7)", x.odds(1, 1, 7), 0, 1);
        dueChance(x, "odds(3, 1, 5)", x.odds(3, 1, 5), 3, 4);
        dueChance(x, "odds(7, 1, 4)", x.odds(7, 1, 4), 5, 8);
        // Two hours of 6, 5, 5, 4: 12; 11 (4 ways); 10 (6 ways).
        dueChance(x, "odds(3, 2, 11)", x.odds(3, 2, 11), 5, 16);
        dueChance(x, "odds(3, 2, 10)", x.odds(3, 2, 10), 11, 16);
        dueChance(x, "odds(1, 3, 18)", x.odds(1, 3, 18), 1, 8);
        dueChance(x, "odds(0, 3, 18)", x.odds(0, 3, 18), 1, 1);
        dueChance(x, "odds(0, 3, 19)", x.odds(0, 3, 19), 0, 1);
        dueChance(x, "odds(7, 0, 0)", x.odds(7, 0, 0), 1, 1);
        dueChance(x, "odds(7, 0, 1)", x.odds(7, 0, 1), 0, 1);
        dueChance(x, "odds(7, 3, 99)", x.odds(7, 3, 99), 0, 1);
        due(x, "nothing is done", x.sun(), 0, 0);
        x.odds(1, 1, 6);
        refuses(x, "odds(8, 1, 1)", o -> o.odds(8, 1, 1), BAD);
        refuses(x, "odds(-1, 1, 1)", o -> o.odds(-1, 1, 1), BAD);
        refuses(x, "odds(0, 4, 1)", o -> o.odds(0, 4, 1), BAD);
        refuses(x, "odds(0, -1, 1)", o -> o.odds(0, -1, 1), BAD);
        refuses(x, "odds(0, 1, 100)", o -> o.odds(0, 1, 100), BAD);
        refuses(x, "odds(0, 1, -1)", o -> o.odds(0, 1, -1), BAD);
        refuses(new SunRopes(), "odds(0, 0, 0) without capes", o -> o.odds(0, 0, 0), STATE);
        refuses(new SunRopes(), "odds(0, 0, 100) without capes", o -> o.odds(0, 0, 100), BAD);
        x = yearOf("c19");
        dueChance(x, "a lurch", x.odds(1, 1, 7), 1, 2);
    }

    private static void byLots() {
        promise = 38;
        SunRopes x = yearOf("c99 g99 v001");
        // The first number by seed 1 is 48271; by 32: 1508, modulo 4: 0. The second is 182605794;
        // by 32: 5706431, modulo 4: 3.
        due("lots(1, 1)", x.lots(1, 1), 6);
        due("undo(0)", x.undo(0), 1);
        due("lots(2, 1)", x.lots(2, 1), 9);
        due(x, "sun()", x.sun(), 9, 3);
        due("deeds", x.count(2), 2);
        due(x, "gained()", x.gained(), 1, 0);
        dueCape(x, 0, 8, 8);
        int asked = x.asked();
        due("lots(1, 2147483646)", x.lots(1, 2147483646), 6 - pullBy(2147483647L - 48271));
        due("lots() tells nothing by asked()", x.asked(), asked);
        refuses(x, "lots(0, 1)", o -> o.lots(0, 1), BAD);
        refuses(x, "lots(-1, 1)", o -> o.lots(-1, 1), BAD);
        refuses(x, "lots(21, 1)", o -> o.lots(21, 1), BAD);
        refuses(x, "lots(1, 0)", o -> o.lots(1, 0), BAD);
        refuses(x, "lots(1, -1)", o -> o.lots(1, -1), BAD);
        refuses(x, "lots(1, most)", o -> o.lots(1, MOST), BAD);
        refuses(new SunRopes(), "lots(1, 1) without capes", o -> o.lots(1, 1), STATE);
        refuses(new SunRopes(), "lots(0, 1) without capes", o -> o.lots(0, 1), BAD);
        x.lots(20, 3);
        x.lots(20, 3);
        due("deeds", x.count(2), 43);
        refuses(x, "lots(18, 1) behind 43 deeds", o -> o.lots(18, 1), FULL);
        due("lots(17, 1) behind 43 deeds", x.lots(17, 1), 0);
        due("deeds", x.count(2), 60);
    }

    private static int pullBy(long lot) {
        int set = (int) (lot / 32 % 4);
        return (set & 1) + (set & 2);
    }

    // ---- 7 what is told

    private static void told() {
        promise = 39;
        SunRopes x = new SunRopes();
        due("asked() before", x.asked(), 0);
        x = yearOf("c19 v073");
        due("asked() behind a year", x.asked(), 0);
        x.hold(1);
        due("asked() by hold", x.asked(), 1);
        x.keep(0);
        x.row(0, 1);
        x.copy(0, 0, 0, 0, 1);
        x.count(0);
        x.digest();
        x.best(2, 1);
        x.slowest(2, 1);
        x.down(0);
        x.choice();
        x.fits(1, 0, 2);
        x.slipped(1, 0);
        x.odds(1, 1, 1);
        x.loose(1, 3);
        x.price(0, 1);
        x.on(0);
        x.undo(0);
        x.tear(0);
        x.finding();
        due("asked() stays", x.asked(), 1);

        promise = 40;
        x = new SunRopes();
        due("upper() before", x.upper(), 0);
        promise = 41;
        due("lower() before", x.lower(), 1);
        x = yearOf("c99");
        x.odds(1, 2, 11);
        promise = 40;
        due("upper()", x.upper(), 3);
        promise = 41;
        due("lower()", x.lower(), 4);
        write(x, 0, "c11");
        x.year(0);
        promise = 40;
        due("upper() behind a new year", x.upper(), 3);
        promise = 41;
        due("lower() behind a new year", x.lower(), 4);

        promise = 42;
        x = yearOf("c11 s01 g92 n91 v011 d011 d011");
        x.row(0, 3);
        x.row(4, 0);
        x.text(0, 0);
        x.keep(1);
        x.hold(1);
        int[] counts = {4, 3, 1, 2, 0, 2, 2, 2, 1};
        for (int what = 0; what <= 8; what++) due("count(" + what + ")", x.count(what), counts[what]);
        SunRopes five = yearOf("c99 c99 c99 c99 c99 v079");
        five.hold(0);
        due("count(3) of five", five.count(3), 5);
        holdTimes(x, 3, 0);
        due("count(3) at 25", x.count(3), 1);
        holdTimes(x, 4, 0);
        due("count(3), the sun being down", x.count(3), 0);
        due("count(4), the sun being down", x.count(4), 1);
        refuses(x, "count(9)", o -> o.count(9), BAD);
        refuses(x, "count(-1)", o -> o.count(-1), BAD);

        promise = 43;
        x = new SunRopes();
        due("finding() before", x.finding(), 0);
        x.row(0, -1);
        due("finding()", x.finding(), SIZE);
        x.at(0, 0);
        due("finding()", x.finding(), NOTHING);
        x.row(0, 0);
        due("finding() stays", x.finding(), NOTHING);

        promise = 44;
        due("findings(5)", x.findings(5), 1);
        due("findings(1)", x.findings(1), 1);
        due("findings(2)", x.findings(2), 0);
        x.at(0, 0);
        x.at(0, 0);
        x.mean(0);
        due("findings(2)", x.findings(2), 2);
        due("findings(4)", x.findings(4), 1);
        due("findings(3)", x.findings(3), 0);
        refuses(x, "findings(0)", o -> o.findings(0), BAD);
        refuses(x, "findings(6)", o -> o.findings(6), BAD);
        refuses(x, "findings(-1)", o -> o.findings(-1), BAD);
    }

    private static long digestOf(long... all) {
        long h = 17;
        for (long v : all) h = 31 * h + v;
        return h;
    }

    private static void digests() {
        promise = 45;
        SunRopes x = new SunRopes();
        due("digest() at first", x.digest(), digestOf(0, 0, 0, 0, 0, 0, 0, 0, 0, 0, 0, -1, -1, -1,
            -1, -1, -1, -1, -1, -1, -1, -1, -1, -1));
        write(x, 1, "h28v123");
        x.year(1);
        x.hold(1);
        x.hold(0);
        x.keep(1);
        lay(x, 2, -7, MOST);
        x.put(1, 0, 255);
        x.row(5, 0);
        // At 11, 1 owed; the hair has a rope of 1, a crew of 8; the valley gained nothing.
        due("digest()", x.digest(), digestOf(1, 1, 2, 1, 0, 0, 2, 1, 1, 11, 1, 1, 1, 8, 1, 1, 1, 2, 3, 0, -1, 2, -1,
            -1, -1, 2, -7, MOST, -1, -1, 0, -1, 7, -1, 50, 56, 118, 49, 50, 51, -1, -1));
        int asked = x.asked();
        x.digest();
        due("digest() tells nothing by asked()", x.asked(), asked);
    }

    public static void main(String[] args) {
        newObject();
        rows();
        copies();
        texts();
        faults();
        years();
        capes();
        marks();
        hours();
        newRopes();
        winters();
        undone();
        keptYears();
        plans();
        searched();
        lasting();
        fewest();
        loosed();
        voted();
        shared();
        fitting();
        chances();
        byLots();
        told();
        digests();
        tellEnd();
    }
}
