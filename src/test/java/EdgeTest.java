/** Promises 21 to 29, 32, 35 and 39: LEANS, SPANS, FITTING NOISES, KEEPERS, TREND, JOINED, what may be said. */
public final class EdgeTest {
    private static final int MIN = Integer.MIN_VALUE;
    private static final int MAX = Integer.MAX_VALUE;
    private static final int FAST = 0;
    private static final int SIGHTED = 1;
    private static final int BESET = 2;
    private static final int CLEAR = 3;
    private static final int SILENT = 4;

    public static void main(String[] args) {
        leansTold();
        spansOfKinds();
        manySpans();
        whichSpans();
        wrongSpans();
        fitting();
        odds();
        nextColumn();
        keepers();
        leansThatFit();
        trends();
        nowhere();
        surely();
        joined();
        saying();
        Check.finish();
    }

    private static void spanIs(IceLogs logs, int slack, int low, int high, int doubted, int many) {
        int n = logs.count(3);
        int[] want = {low, high, doubted, many};
        for (int what = 0; what < 4; what++) {
            Check.due(22, "span, slack " + slack + ", what " + what, logs.span(3, 2, 7, slack, n, what), want[what]);
        }
    }

    /** A NOON of x 3, week 2, YEAR 7: each of another DAY, so none is SLIPPED by another SHIP's. */
    private static void note(IceLogs logs, int ship, int y, int kind, int far) {
        Check.due(10, "a noon", logs.noon(ship, 7, 14 + ship, 3, y, kind, far) != IceLogs.NONE, true);
    }

    private static void leansTold() {
        IceLogs logs = new IceLogs();
        for (int ship = 0; ship < 6; ship++) {
            Check.due(21, "lean", logs.lean(ship, 2), true);
            Check.due(21, "lean", logs.lean(ship, -2), true);
        }
        note(logs, 5, 6, FAST, 0);
        spanIs(logs, 0, 4, 4, 0, 1);
        Check.due(21, "no such SHIP", logs.lean(-1, 0), false);
        Check.due(21, "no such SHIP", logs.lean(6, 0), false);
        Check.due(21, "no such LEAN", logs.lean(5, 3), false);
        Check.due(21, "no such LEAN", logs.lean(5, -3), false);
        Check.due(21, "none", logs.lean(MAX, MIN), false);
        spanIs(logs, 0, 4, 4, 0, 1);
        Check.due(21, "told anew", logs.lean(5, 1), true);
        spanIs(logs, 0, 7, 7, 0, 1);
    }

    private static void kindSpans(int lean, int y, int kind, int far, int slack, int low, int high) {
        IceLogs logs = new IceLogs();
        logs.lean(1, lean);
        note(logs, 1, y, kind, far);
        spanIs(logs, slack, low, high, 0, 1);
    }

    private static void spansOfKinds() {
        kindSpans(0, 5, FAST, 0, 0, 5, 5);
        kindSpans(1, 5, FAST, 0, 0, 6, 6);
        kindSpans(1, 5, FAST, 0, 2, 4, 8);
        kindSpans(0, 1, FAST, 0, 3, 0, 4);
        kindSpans(0, 9, SIGHTED, 4, 0, 5, 5);
        kindSpans(-2, 9, SIGHTED, 4, 1, 2, 4);
        kindSpans(0, 4, BESET, 0, 0, 5, 12);
        kindSpans(2, 4, BESET, 0, 0, 7, 12);
        kindSpans(2, 4, BESET, 0, 3, 4, 12);
        kindSpans(0, 11, BESET, 0, 0, 12, 12);
        kindSpans(0, 9, CLEAR, 0, 0, 0, 6);
        kindSpans(-1, 9, CLEAR, 0, 0, 0, 5);
        kindSpans(-1, 9, CLEAR, 0, 3, 0, 8);
        kindSpans(0, 3, CLEAR, 0, 0, 0, 0);
        IceLogs far = Check.with("sight 5;");
        note(far, 1, 9, CLEAR, 0);
        spanIs(far, 0, 0, 3, 0, 1);
        IceLogs silent = new IceLogs();
        note(silent, 1, 9, SILENT, 0);
        spanIs(silent, 0, 0, 12, 0, 0);
        spanIs(new IceLogs(), 0, 0, 12, 0, 0);
        // in no row at all
        IceLogs off = new IceLogs();
        note(off, 1, 2, SIGHTED, 4);
        spanIs(off, 0, 0, 12, 1, 1);
        spanIs(off, 1, 0, 12, 1, 1);
        spanIs(off, 2, 0, 0, 0, 1);
        note(off, 2, 2, CLEAR, 0);
        note(off, 3, 9, SILENT, 0);
        spanIs(off, 0, 0, 12, 2, 2);
        note(off, 4, 8, FAST, 0);
        spanIs(off, 0, 8, 8, 2, 3);
    }

    private static void manySpans() {
        IceLogs logs = new IceLogs();
        note(logs, 0, 5, FAST, 0);
        note(logs, 1, 9, FAST, 0);
        spanIs(logs, 0, 5, 9, 1, 2);
        spanIs(logs, 1, 4, 10, 1, 2);
        spanIs(logs, 2, 7, 7, 0, 2);
        spanIs(logs, 3, 6, 8, 0, 2);
        note(logs, 2, 8, BESET, 0);
        spanIs(logs, 0, 9, 9, 1, 3);
        note(logs, 3, 8, CLEAR, 0);
        spanIs(logs, 0, 5, 9, 2, 4);
        spanIs(logs, 1, 4, 10, 2, 4);
        note(logs, 4, 1, SILENT, 0);
        spanIs(logs, 0, 5, 9, 2, 4);
        Check.due(22, "as KNOWN by one", logs.span(3, 2, 7, 0, 1, 1), 5);
        Check.due(22, "as KNOWN by none", logs.span(3, 2, 7, 0, 0, 1), 12);
        logs.annul(0);
        spanIs(logs, 0, 9, 9, 1, 3);
        Check.due(22, "as KNOWN by one", logs.span(3, 2, 7, 0, 1, 1), 5);
    }

    private static void whichSpans() {
        IceLogs logs = new IceLogs();
        logs.noon(0, 7, 13, 3, 1, FAST, 0);
        logs.noon(0, 7, 21, 3, 1, FAST, 0);
        logs.noon(0, 8, 14, 3, 1, FAST, 0);
        logs.noon(0, 7, 17, 4, 3, FAST, 0);
        spanIs(logs, 0, 0, 12, 0, 0);
        logs.noon(1, 7, 14, 3, 2, FAST, 0);
        logs.noon(1, 7, 20, 3, 4, FAST, 0);
        spanIs(logs, 0, 2, 4, 1, 2);
        // SLIPPED ones are of no SPAN, nor copied ones
        logs.noon(1, 7, 17, 3, 9, FAST, 0);
        spanIs(logs, 0, 2, 4, 1, 2);
        logs.noon(2, 7, 14, 3, 8, FAST, 0);
        logs.noon(2, 7, 15, 3, 8, FAST, 0);
        logs.noon(2, 7, 16, 8, 8, FAST, 0);
        spanIs(logs, 0, 2, 8, 2, 3);
        IceLogs land = Check.with("land 3 5;");
        note(land, 0, 5, FAST, 0);
        spanIs(land, 0, 0, 12, 0, 0);
    }

    private static void wrongSpans() {
        IceLogs logs = new IceLogs();
        note(logs, 0, 5, FAST, 0);
        int[][] wrong = {{-1, 0, 0, 0, 0, 0}, {10, 0, 0, 0, 0, 0}, {0, -1, 0, 0, 0, 0}, {0, 16, 0, 0, 0, 0}, {0, 0, -1, 0, 0, 0},
            {0, 0, 40, 0, 0, 0}, {0, 0, 0, -1, 0, 0}, {0, 0, 0, 4, 0, 0}, {0, 0, 0, 0, -1, 0}, {0, 0, 0, 0, 2, 0},
            {0, 0, 0, 0, 0, -1}, {0, 0, 0, 0, 0, 4}};
        for (int[] w : wrong) {
            Check.due(22, "no such span", logs.span(w[0], w[1], w[2], w[3], w[4], w[5]), -1);
        }
        int[][] wrongWeeks = {{-1, 0, 0, 0}, {16, 0, 0, 0}, {0, -1, 0, 0}, {0, 40, 0, 0}, {0, 0, -1, 0}, {0, 0, 4, 0}, {0, 0, 0, -1},
            {0, 0, 0, 2}, {MIN, MAX, MIN, MAX}};
        for (int[] w : wrongWeeks) {
            Check.due(23, "no such fitting", logs.fitting(w[0], w[1], w[2], w[3]), -1);
            Check.due(24, "no such odds", logs.odds(0, 0, w[0], w[1], w[2], w[3]), -1);
            Check.due(29, "no such next", logs.next(w[0], w[1], w[2], w[3]), -1);
            Check.due(32, "no such surely", logs.surely(0, 0, w[0], w[1], w[2], w[3]), -1);
        }
        int[][] wrongCells = {{-1, 0}, {10, 0}, {0, -1}, {0, 12}};
        for (int[] w : wrongCells) {
            Check.due(24, "no such cell", logs.odds(w[0], w[1], 0, 0, 0, 0), -1);
            Check.due(32, "no such cell", logs.surely(w[0], w[1], 0, 0, 0, 0), -1);
        }
        Check.due(23, "the last there is", logs.fitting(15, 39, 3, 1), 1023);
        Check.due(22, "the last there is", logs.span(9, 15, 39, 3, 1, 3), 0);
    }

    private static void fitting() {
        IceLogs logs = Check.with("edge=noise;");
        Check.due(23, "without SPANS", logs.fitting(2, 7, 0, 0), 1023);
        note(logs, 0, 6, FAST, 0);
        Check.due(23, "one SPAN", logs.fitting(2, 7, 0, 1), 1 << 6);
        Check.due(23, "slack", logs.fitting(2, 7, 1, 1), 7 << 5);
        Check.due(23, "another week", logs.fitting(3, 7, 0, 1), 1023);
        Check.due(23, "another YEAR", logs.fitting(2, 8, 0, 1), 1023);
        logs.noon(1, 7, 16, 8, 8, FAST, 0);
        Check.due(23, "of another x", logs.fitting(2, 7, 0, 2), 1 << 6 | 1 << 8);
        Check.due(23, "slack, two SPANS", logs.fitting(2, 7, 1, 2), 1 << 7);
        logs.noon(2, 7, 17, 0, 5, SILENT, 0);
        Check.due(23, "SILENT ones count for none", logs.fitting(2, 7, 0, 3), 1 << 6 | 1 << 8);
        logs.noon(3, 7, 17, 0, 7, BESET, 0);
        Check.due(23, "three SPANS", logs.fitting(2, 7, 0, 4), 1 << 8);
        logs.lean(1, 1);
        Check.due(23, "LEAN", logs.fitting(2, 7, 0, 4), 1 << 9);
        logs.lean(1, 2);
        Check.due(23, "no NOISE has it", logs.fitting(2, 7, 0, 2), 1 << 6);
        logs.annul(0);
        Check.due(23, "no NOISE has the one left", logs.fitting(2, 7, 0, 3), 1 << 6);
        Check.due(23, "the VOID is KNOWN", logs.fitting(2, 7, 0, 5), 3 << 8);
        IceLogs clear = Check.with("edge=noise;sight 4;");
        note(clear, 0, 8, CLEAR, 0);
        Check.due(23, "CLEAR", clear.fitting(2, 7, 0, 1), 15);
        IceLogs none = Check.with("edge=noise+3;");
        note(none, 0, 1, FAST, 0);
        Check.due(23, "none fits", none.fitting(2, 7, 0, 1), 1023);
        IceLogs all = Check.with("edge=noise+x+week-year;");
        note(all, 0, 2, FAST, 0);
        Check.due(23, "by x, week, YEAR", all.fitting(2, 7, 0, 1), 1 << 4);
    }

    private static void odds() {
        IceLogs logs = Check.with("edge=noise;land 1 0;lead if x==2 and noise!=6;");
        Check.due(24, "all NOISES", logs.odds(0, 3, 2, 7, 0, 0), 610);
        Check.due(24, "the southernmost", logs.odds(0, 8, 2, 7, 0, 0), 110);
        Check.due(24, "no ICE there", logs.odds(0, 9, 2, 7, 0, 0), 10);
        Check.due(24, "LAND", logs.odds(1, 0, 2, 7, 0, 0), 10);
        Check.due(24, "LEADS", logs.odds(2, 0, 2, 7, 0, 0), 110);
        note(logs, 0, 6, FAST, 0);
        Check.due(24, "one NOISE", logs.odds(0, 5, 2, 7, 0, 1), 101);
        Check.due(24, "one NOISE", logs.odds(0, 6, 2, 7, 0, 1), 1);
        Check.due(24, "slack", logs.odds(0, 5, 2, 7, 1, 1), 203);
        Check.due(24, "nobody KNOWS it", logs.odds(0, 5, 2, 7, 1, 0), 410);
    }

    private static void nextColumn() {
        IceLogs logs = Check.with("edge=noise*(x/5)+noise/5*(x/3);");
        // columns 0 .. 2 have one edge, 3 and 4 two, 5 .. 9 more
        Check.due(29, "the most edges", logs.next(2, 7, 0, 0), 5);
        IceLogs halves = Check.with("edge=noise/4*(x/7)+noise/8*(x/2);");
        Check.due(29, "4 of 10", halves.next(2, 7, 0, 0), 7);
        Check.due(29, "alike ones", Check.with("edge=noise;").next(2, 7, 0, 0), 0);
        Check.due(29, "the law says nothing", Check.with("").next(2, 7, 0, 0), 0);
        IceLogs fit = Check.with("edge=noise/5*5+noise*(x/6);");
        note(fit, 0, 2, CLEAR, 0);
        Check.due(29, "all", fit.next(2, 7, 0, 0), 6);
        // of all NOISES each column has five of one edge; of 0 .. 4 column 1 alone tells one from another
        IceLogs apart = Check.with("edge=noise/5*9+noise*(1/(1+(x-1)*(x-1)))+noise/5*noise*(x/4);");
        Check.due(29, "by all", apart.next(2, 7, 0, 0), 0);
        note(apart, 0, 5, CLEAR, 0);
        Check.due(29, "by those that FIT", apart.next(2, 7, 0, 1), 1);
        // column 4 has six of one edge, of 0 .. 4 one of each
        IceLogs two = Check.with("edge=noise/5*(x/5)*noise+(1-noise/5)*(x/4)*(5-x)*noise+2-2*(x/4);");
        Check.due(29, "by all", two.next(2, 7, 0, 0), 5);
        two.noon(0, 7, 14, 5, 0, FAST, 0);
        Check.due(29, "by those that FIT", two.next(2, 7, 0, 1), 4);
        Check.due(29, "slack", two.next(2, 7, 3, 1), 4);
        Check.due(29, "another week", two.next(3, 7, 0, 1), 5);
        // three of column 0 (NOISES 7 to 9), three of each other one (0 to 2)
        IceLogs ends = Check.with("edge=noise-(noise/8)*(noise-7)*(1/(x+1))+(2-noise)*(1/(noise/2+1))*(1-1/(x+1));");
        Check.due(29, "alike ones: the least", ends.next(2, 7, 0, 0), 0);
    }

    private static void keepers() {
        IceLogs logs = new IceLogs();
        Check.due(25, "none", logs.keepers(0, 1, 0, 0), 0);
        Check.due(25, "none", logs.keepers(0, 1, 0, 1), 0);
        logs.noon(0, 7, 14, 3, 5, FAST, 0);
        logs.noon(4, 7, 14, 3, 7, SIGHTED, 5);
        Check.due(25, "one DAY", logs.keepers(0, 4, 2, 0), 1);
        Check.due(25, "5 less 2", logs.keepers(0, 4, 2, 1), 3);
        Check.due(25, "KNOWN by one", logs.keepers(0, 4, 1, 0), 0);
        logs.noon(0, 8, 14, 3, 5, SIGHTED, 1);
        logs.noon(4, 8, 14, 3, 3, FAST, 0);
        Check.due(25, "another YEAR", logs.keepers(0, 4, 4, 0), 2);
        Check.due(25, "and 4 less 3", logs.keepers(0, 4, 4, 1), 4);
        logs.lean(0, 2);
        Check.due(25, "without LEANS", logs.keepers(0, 4, 4, 1), 4);
        Check.due(25, "other SHIPS", logs.keepers(0, 3, 4, 0), 0);
        // too far apart, another x, another DAY, BESET, CLEAR, SILENT, not GOOD
        meet(logs, 9, 3, 5, FAST, 3, 8, FAST, 0);
        meet(logs, 10, 3, 5, FAST, 4, 5, FAST, 0);
        meet(logs, 11, 3, 5, BESET, 3, 5, FAST, 0);
        meet(logs, 12, 3, 5, FAST, 3, 5, CLEAR, 0);
        meet(logs, 13, 3, 5, SILENT, 3, 5, FAST, 0);
        meet(logs, 14, 3, 5, FAST, 3, 3, FAST, 1);
        meet(logs, 15, 3, 3, FAST, 3, 5, FAST, 1);
        Check.due(25, "with these", logs.keepers(0, 4, logs.count(3), 0), 4);
        Check.due(25, "with these", logs.keepers(0, 4, logs.count(3), 1), 4 + 2 - 2);
        logs.noon(0, 16, 20, 3, 5, FAST, 0);
        logs.noon(4, 16, 21, 3, 5, FAST, 0);
        Check.due(25, "another DAY", logs.keepers(0, 4, logs.count(3), 0), 4);
        logs.noon(4, 16, 20, 3, 5, FAST, 0);
        Check.due(25, "that DAY", logs.keepers(0, 4, logs.count(3), 0), 5);
        logs.noon(4, 16, 20, 3, 5, SILENT, 0);
        Check.due(25, "told anew", logs.keepers(0, 4, logs.count(3), 0), 4);
        Check.tell(logs, "sight 3;");
        Check.due(25, "by SIGHT 3", logs.keepers(0, 4, logs.count(3), 0), 5);
        Check.due(25, "by SIGHT 3", logs.keepers(0, 4, logs.count(3), 1), 4 - 3);
        Check.tell(logs, "land 3 5;");
        Check.due(25, "on LAND", logs.keepers(0, 4, logs.count(3), 0), 0);
        int[][] wrong = {{-1, 1, 0, 0}, {0, 6, 0, 0}, {1, 1, 0, 0}, {2, 1, 0, 0}, {0, 1, -1, 0}, {0, 1, 120, 0}, {0, 1, 0, -1},
            {0, 1, 0, 2}, {MIN, MAX, 0, 0}};
        for (int[] w : wrong) {
            Check.due(25, "no such", logs.keepers(w[0], w[1], w[2], w[3]), -1000);
        }
    }

    /** Noons of SHIPS 0 and 4 on one DAY of a YEAR, how far 1 where SIGHTED. */
    private static void meet(IceLogs logs, int year, int x, int y, int kind, int otherX, int otherY, int otherKind, int want) {
        int before = logs.keepers(0, 4, logs.count(3), 0);
        logs.noon(0, year, 30, x, y, kind, kind == SIGHTED ? 1 : 0);
        logs.noon(4, year, 30, otherX, otherY, otherKind, otherKind == SIGHTED ? 1 : 0);
        Check.due(25, "met in YEAR " + year, logs.keepers(0, 4, logs.count(3), 0) - before, want);
    }

    private static void seen(IceLogs logs, int ship, int day, int edge) {
        logs.noon(ship, 7, day, 3, edge, FAST, 0);
    }

    private static void leansAre(IceLogs logs, int first, int second, int third) {
        int n = logs.count(3);
        int[] want = {0, first, second, third};
        for (int ship = 0; ship < 4; ship++) {
            Check.due(26, "leanOf(" + ship + ")", logs.leanOf(ship, n), want[ship]);
        }
    }

    private static void leansThatFit() {
        IceLogs logs = Check.with("sight 5;move 3;");
        leansAre(logs, -2, -2, -2);
        seen(logs, 0, 10, 5);
        seen(logs, 1, 10, 4);
        leansAre(logs, 1, -2, -2);
        // SHIP 2 sees two more than SHIP 1
        seen(logs, 1, 20, 5);
        seen(logs, 2, 20, 7);
        leansAre(logs, 1, -1, -2);
        seen(logs, 2, 30, 5);
        seen(logs, 3, 30, 5);
        leansAre(logs, 1, -1, -1);
        Check.due(26, "as KNOWN by two", logs.leanOf(1, 2), 1);
        Check.due(26, "as KNOWN by two", logs.leanOf(3, 2), -2);
        // SHIPS 4, 5 stay aside
        seen(logs, 4, 30, 9);
        seen(logs, 5, 10, 1);
        leansAre(logs, 1, -1, -1);
        logs.lean(1, -2);
        Check.due(26, "LEANS told do not matter", logs.leanOf(1, logs.count(3)), 1);
        // what is left is summed without its sign, DAY by DAY: 1 and -1 leave 2 by -1, 0 and 1
        IceLogs both = Check.with("sight 5;move 3;");
        seen(both, 0, 10, 5);
        seen(both, 1, 10, 4);
        seen(both, 0, 20, 5);
        seen(both, 1, 20, 6);
        leansAre(both, -1, -2, -2);
        seen(both, 0, 30, 5);
        seen(both, 1, 30, 5);
        leansAre(both, 0, -2, -2);
        // between SHIPS 1 and 2 alone: the first that leave none
        IceLogs gap = Check.with("sight 5;move 3;");
        seen(gap, 1, 10, 5);
        seen(gap, 2, 10, 7);
        leansAre(gap, 0, -2, -2);
        seen(gap, 1, 20, 2);
        seen(gap, 3, 20, 0);
        leansAre(gap, 0, -2, 2);
        // more than LEANS can make alike
        IceLogs wide = Check.with("sight 5;move 3;");
        seen(wide, 0, 10, 9);
        seen(wide, 1, 10, 4);
        leansAre(wide, 2, -2, -2);
        Check.due(26, "nothing is told by that", wide.span(3, 1, 7, 0, 2, 1), 9);
        Check.due(26, "nothing is told by that", wide.span(3, 1, 7, 0, 2, 0), 4);
        Check.due(26, "no such SHIP", wide.leanOf(-1, 2), -100);
        Check.due(26, "no such SHIP", wide.leanOf(4, 2), -100);
        Check.due(26, "no such n", wide.leanOf(1, 3), -100);
        Check.due(26, "no such n", wide.leanOf(1, -1), -100);
    }

    /** An object in which the edge of x 3 in week 2 was seen in YEARS 0, 1, .. */
    private static IceLogs withEdges(int... edges) {
        IceLogs logs = new IceLogs();
        for (int year = 0; year < edges.length; year++) {
            logs.noon(0, year, 15, 3, edges[year], FAST, 0);
        }
        return logs;
    }

    private static void trendIs(IceLogs logs, int many, int back, int forth, int ways) {
        int[] want = {many, back, forth, ways};
        for (int what = 0; what < 4; what++) {
            Check.due(27, "trend, what " + what, logs.trend(3, 2, logs.count(3), what), want[what]);
        }
    }

    private static void trends() {
        trendIs(new IceLogs(), 0, 0, 0, 1);
        trendIs(withEdges(5), 1, 0, 0, 1);
        trendIs(withEdges(5, 4), 2, 1, 0, 1);
        trendIs(withEdges(4, 5), 2, 0, 1, 2);
        trendIs(withEdges(5, 5), 2, 0, 0, 2);
        trendIs(withEdges(6, 5, 4), 3, 3, 0, 1);
        trendIs(withEdges(6, 4, 5), 3, 2, 1, 3);
        trendIs(withEdges(5, 4, 6), 3, 1, 2, 5);
        trendIs(withEdges(4, 5, 6), 3, 0, 3, 6);
        trendIs(withEdges(6, 5, 5), 3, 2, 0, 2);
        trendIs(withEdges(9, 8, 7, 6), 4, 6, 0, 1);
        trendIs(withEdges(9, 8, 6, 7), 4, 5, 1, 4);
        trendIs(withEdges(1, 2, 3, 4, 5, 6, 7), 7, 0, 21, 5040);
        trendIs(withEdges(7, 6, 5, 4, 3, 2, 1), 7, 21, 0, 1);
        trendIs(withEdges(7, 6, 5, 4, 3, 2, 1, 9, 0), 7, 21, 0, 1);
        trendIs(withEdges(4, 4, 4, 4, 4, 4, 4), 7, 0, 0, 5040);
        // a YEAR that is not SURE, a SILENT one, another week, another x
        IceLogs logs = withEdges(8, 6, 7);
        logs.noon(1, 1, 15, 3, 5, FAST, 0);
        logs.noon(1, 5, 15, 3, 5, SILENT, 0);
        logs.noon(1, 6, 21, 3, 5, FAST, 0);
        logs.noon(1, 7, 15, 4, 5, FAST, 0);
        trendIs(logs, 2, 1, 0, 1);
        Check.due(27, "as KNOWN by three", logs.trend(3, 2, 3, 0), 3);
        // BESET and CLEAR together are SURE too, and DOUBTED may be some
        logs.noon(0, 8, 14, 3, 4, BESET, 0);
        logs.noon(1, 8, 14, 3, 8, CLEAR, 0);
        trendIs(logs, 3, 3, 0, 1);
        logs.noon(2, 8, 14, 3, 5, FAST, 0);
        logs.noon(3, 8, 14, 3, 9, FAST, 0);
        trendIs(logs, 3, 3, 0, 1);
        // LEANS count: rows 5 and 9 are alike then
        logs.lean(0, 1);
        trendIs(logs, 2, 1, 0, 1);
        int[][] wrong = {{-1, 0, 0, 0}, {10, 0, 0, 0}, {0, -1, 0, 0}, {0, 16, 0, 0}, {0, 0, -1, 0}, {0, 0, 99, 0}, {0, 0, 0, -1},
            {0, 0, 0, 4}};
        for (int[] w : wrong) {
            Check.due(27, "no such", logs.trend(w[0], w[1], w[2], w[3]), -1);
        }
    }

    private static void nowhere() {
        IceLogs logs = new IceLogs();
        Check.due(28, "all", logs.nowhere(7, 0), 160);
        logs.noon(0, 7, 0, 0, 5, FAST, 0);
        logs.noon(0, 7, 6, 0, 6, SILENT, 0);
        Check.due(28, "of one week", logs.nowhere(7, 2), 159);
        logs.noon(0, 7, 7, 0, 6, SILENT, 0);
        Check.due(28, "of two weeks", logs.nowhere(7, 3), 158);
        logs.noon(1, 7, 111, 9, 6, SILENT, 0);
        Check.due(28, "of the last week", logs.nowhere(7, 4), 157);
        logs.noon(2, 8, 50, 5, 6, SILENT, 0);
        Check.due(28, "of another YEAR", logs.nowhere(7, 5), 157);
        Check.due(28, "of that YEAR", logs.nowhere(8, 5), 159);
        logs.noon(1, 7, 109, 9, 6, SILENT, 0);
        logs.noon(1, 7, 110, 4, 1, SILENT, 0);
        Check.due(28, "SLIPPED", logs.nowhere(7, 7), 157);
        Check.due(28, "GOOD as KNOWN", logs.nowhere(7, 6), 157);
        logs.annul(2);
        Check.due(28, "a VOID", logs.nowhere(7, 8), 158);
        logs.picture(7, 5, 5, 5);
        Check.due(28, "a PICTURE is no NOON", logs.nowhere(7, 9), 158);
        Check.due(28, "no such YEAR", logs.nowhere(-1, 0), -1);
        Check.due(28, "no such YEAR", logs.nowhere(40, 0), -1);
        Check.due(28, "no such n", logs.nowhere(0, 10), -1);
        Check.due(28, "no such n", logs.nowhere(0, -1), -1);
    }

    private static void surely() {
        IceLogs logs = Check.with("edge=week+noise/5;");
        Check.due(32, "with all NOISES", logs.surely(3, 5, 2, 7, 0, 0), 4);
        logs.noon(0, 7, 15, 3, 2, FAST, 0);
        Check.due(32, "with the lesser half", logs.surely(3, 5, 2, 7, 0, 1), 5);
        Check.due(32, "by looking in another week", logs.surely(3, 5, 3, 7, 0, 1), 4);
        Check.due(32, "by looking in another YEAR", logs.surely(3, 5, 2, 8, 0, 1), 4);
        Check.due(32, "slack", logs.surely(3, 5, 2, 7, 1, 1), 4);
        Check.due(32, "KNOWN by none", logs.surely(3, 5, 2, 7, 0, 0), 4);
        Check.due(32, "ahead of the week of looking", logs.surely(3, 0, 2, 7, 0, 1), 0);
        Check.due(32, "in none", logs.surely(3, 0, 2, 7, 0, 0), -2);
        Check.due(32, "in all", logs.surely(3, 11, 15, 7, 0, 0), 10);
        // each NOISE lets it out in weeks of its own: none is in all
        IceLogs turns = Check.with("edge=12-12*((week/8-noise/5)*(week/8-noise/5));");
        Check.due(32, "now one, now the other", turns.surely(3, 11, 0, 7, 0, 0), -2);
        Check.due(31, "by one alone", turns.last(3, 11, 7, 0), 15);
        Check.due(31, "by the other alone", turns.last(3, 11, 7, 9), 7);
        IceLogs later = Check.with("edge=12*(noise/5)*(week/9)*(1-week/10);");
        Check.due(32, "the last, though not all ahead of it", later.surely(3, 11, 0, 7, 0, 0), 15);
        Check.due(32, "LAND", Check.with("land 3 11;").surely(3, 11, 0, 7, 0, 0), -2);
    }

    private static IceLogs withPictures(int... shifts) {
        IceLogs logs = new IceLogs();
        for (int i = 0; i < shifts.length; i++) {
            logs.noon(0, i, 15, 3, 6, FAST, 0);
            logs.picture(i, 2, 3, 6 + shifts[i]);
        }
        return logs;
    }

    private static void joinedIs(IceLogs logs, int shift, int alike, int many) {
        int[] want = {shift, alike, many};
        for (int what = 0; what < 3; what++) {
            Check.due(35, "joined, what " + what, logs.joined(logs.count(3), what), want[what]);
        }
    }

    private static void joined() {
        joinedIs(new IceLogs(), 0, 0, 0);
        joinedIs(withPictures(2), 2, 1, 1);
        joinedIs(withPictures(-5), -5, 1, 1);
        joinedIs(withPictures(5), 5, 1, 1);
        joinedIs(withPictures(6), 0, 0, 1);
        joinedIs(withPictures(-6, 6), 0, 0, 2);
        joinedIs(withPictures(2, 3, 3), 3, 2, 3);
        joinedIs(withPictures(5, 3, -3, 4), -3, 1, 4);
        joinedIs(withPictures(5, 3, 4), 3, 1, 3);
        joinedIs(withPictures(1, 0, -1), 0, 1, 3);
        joinedIs(withPictures(1, 0, -1, 1), 1, 2, 4);
        joinedIs(withPictures(1, 0, -1, 1, -1), -1, 2, 5);
        IceLogs logs = withPictures(2, 3, 3);
        Check.due(35, "as KNOWN by three", logs.joined(3, 2), 1);
        // of one YEAR two PICTURES; without its noon it is not SURE
        logs.picture(0, 2, 3, 8);
        logs.picture(0, 2, 3, 8);
        joinedIs(logs, 2, 3, 5);
        logs.annul(6);
        joinedIs(logs, 2, 2, 4);
        logs.annul(0);
        joinedIs(logs, 3, 2, 2);
        logs.picture(1, 3, 3, 8);
        logs.picture(1, 2, 4, 8);
        logs.picture(9, 2, 3, 8);
        joinedIs(logs, 3, 2, 2);
        logs.lean(0, 1);
        joinedIs(logs, 2, 2, 2);
        Check.due(35, "no such what", logs.joined(0, 3), -100);
        Check.due(35, "no such what", logs.joined(0, -1), -100);
        Check.due(35, "no such n", logs.joined(-1, 0), -100);
        Check.due(35, "no such n", logs.joined(99, 0), -100);
    }

    private static void sayIs(IceLogs logs, int want) {
        Check.due(39, "say", logs.say(3, 2, 7, logs.count(3)), want);
    }

    private static void saying() {
        IceLogs logs = Check.with("edge=noise;");
        sayIs(logs, 4);
        logs.noon(0, 7, 16, 3, 6, SILENT, 0);
        sayIs(logs, 1 + 4);
        logs.noon(1, 7, 16, 3, 6, FAST, 0);
        sayIs(logs, 1 + 2 + 4 + 8);
        logs.picture(7, 2, 3, 5);
        sayIs(logs, 1 + 2 + 4 + 8 + 32);
        Check.due(39, "KNOWN by two", logs.say(3, 2, 7, 2), 1 + 2 + 4 + 8);
        Check.due(39, "another x of that week", logs.say(4, 2, 7, 3), 4 + 8);
        Check.due(39, "another week", logs.say(3, 3, 7, 3), 4);
        Check.due(39, "another YEAR", logs.say(3, 2, 8, 3), 4);
        logs.noon(2, 7, 16, 3, 6, FAST, 0);
        logs.noon(3, 7, 16, 3, 9, FAST, 0);
        sayIs(logs, 1 + 2 + 32);
        logs.noon(4, 7, 16, 3, 9, FAST, 0);
        sayIs(logs, 1 + 32);
        logs.annul(2);
        sayIs(logs, 1);
        // three FITTING NOISES may be said, four not; nor any where one SPAN is left out
        IceLogs three = Check.with("edge=noise/3*3;");
        note(three, 0, 3, FAST, 0);
        sayIs(three, 1 + 2 + 4 + 8);
        IceLogs four = Check.with("edge=noise/4*4;");
        note(four, 0, 4, FAST, 0);
        sayIs(four, 1 + 2 + 4);
        IceLogs beside = Check.with("edge=noise;");
        note(beside, 0, 4, FAST, 0);
        beside.noon(1, 7, 15, 9, 5, FAST, 0);
        sayIs(beside, 1 + 2 + 4);
        IceLogs slipped = Check.with("land 3 4;");
        IceLogs pictured = new IceLogs();
        pictured.picture(7, 2, 3, 5);
        Check.due(39, "a PICTURE is the first FACT", pictured.say(3, 2, 7, 1), 4 + 32);
        Check.due(39, "nobody KNOWS it", pictured.say(3, 2, 7, 0), 4);
        note(slipped, 0, 4, FAST, 0);
        sayIs(slipped, 4);
        trendsSaid();
        int[][] wrong = {{-1, 0, 0, 0}, {10, 0, 0, 0}, {0, -1, 0, 0}, {0, 16, 0, 0}, {0, 0, -1, 0}, {0, 0, 40, 0}, {0, 0, 0, -1},
            {0, 0, 0, 99}};
        for (int[] w : wrong) {
            Check.due(39, "no such", logs.say(w[0], w[1], w[2], w[3]), -1);
        }
    }

    private static void trendsSaid() {
        Check.due(39, "three YEARS", withEdges(6, 5, 4).say(3, 2, 39, 3), 4);
        Check.due(39, "four YEARS: 1 of 24", withEdges(6, 5, 4, 3).say(3, 2, 39, 4), 4 + 16);
        Check.due(39, "four YEARS: 2 of 24", withEdges(6, 5, 4, 4).say(3, 2, 39, 4), 4);
        Check.due(39, "five YEARS: 5 of 120", withEdges(7, 6, 5, 3, 4).say(3, 2, 39, 5), 4 + 16);
        // 1 and 4 and 9 of 120 have no less than 6 of 10
        Check.due(39, "five YEARS: 14 of 120", withEdges(7, 5, 6, 3, 4).say(3, 2, 39, 5), 4);
        Check.due(39, "just a twentieth: 6 of 120", withEdges(7, 6, 5, 5, 5).say(3, 2, 39, 5), 4 + 16);
        Check.due(39, "forth", withEdges(3, 4, 5, 6).say(3, 2, 39, 4), 4);
        Check.due(39, "of another week", withEdges(6, 5, 4, 3).say(3, 3, 39, 4), 4);
        Check.due(39, "of another x", withEdges(6, 5, 4, 3).say(2, 2, 39, 4), 4);
    }
}
