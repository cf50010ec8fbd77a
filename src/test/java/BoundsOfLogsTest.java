/** The boundaries that the document names for what is told from logs: IV, parts of V, promises 21 to 29, 32, 35, 39. */
public final class BoundsOfLogsTest {
    private static final int MIN = Bounds.MIN;
    private static final int MAX = Bounds.MAX;
    private static final int FAST = Bounds.FAST;
    private static final int SIGHTED = Bounds.SIGHTED;
    private static final int BESET = Bounds.BESET;
    private static final int CLEAR = Bounds.CLEAR;
    private static final int SILENT = Bounds.SILENT;

    public static void main(String[] args) {
        leansTold();
        spanOfANoon();
        edgeByLogs();
        withoutSpans();
        spansOfXWeekYear();
        noSuchSpan();
        fitting();
        fittingOfNone();
        odds();
        keepersBySight();
        keepersOfOneDay();
        noSuchKeepers();
        leansThatFit();
        sure();
        theFirst7();
        ways();
        nowhere();
        next();
        surely();
        joined();
        say();
        sayByTrend();
        noSuchOnes();
        Check.finish();
    }

    private static int note(IceLogs logs, int ship, int y, int kind, int far) {
        return logs.noon(ship, 7, 14 + ship, 3, y, kind, far);
    }

    private static void spanIs(String call, IceLogs logs, int slack, int low, int high, int doubted, int many) {
        int[] want = {low, high, doubted, many};
        for (int what = 0; what < 4; what++) {
            Check.due(22, call + ", SLACK " + slack + ", what " + what, logs.span(3, 2, 7, slack, logs.count(3), what), want[what]);
        }
    }

    // ---- 'with its SHIP's LEAN l (0 if not told)', promise 21: 'A SHIP's LEAN (-2 .. 2) is told: true; false: no such ones.'

    private static void leansTold() {
        Bounds.ranges(21, "false: no such ones", Bounds::some, (l, a) -> l.lean(a[0], a[1]) ? 1 : 0, 0, new int[] {2, 1},
            Bounds.to(0, 5), Bounds.to(-2, 2));
        for (int ship = 0; ship < 6; ship++) {
            IceLogs logs = new IceLogs();
            note(logs, ship, 6, FAST, 0);
            spanIs("0 if not told", logs, 0, 6, 6, 0, 1);
            for (int lean = -2; lean <= 2; lean++) {
                Check.due(21, "told", logs.lean(ship, lean), true);
                spanIs("LEAN " + lean, logs, 0, 6 + lean, 6 + lean, 0, 1);
            }
            logs.lean((ship + 1) % 6, -2);
            logs.lean((ship + 5) % 6, -2);
            spanIs("another SHIP's", logs, 0, 8, 8, 0, 1);
            logs.lean(ship, 0);
            spanIs("LEAN 0 told anew", logs, 0, 6, 6, 0, 1);
        }
    }

    // ---- 'FAST y + l, SIGHTED y less how far, and l more, BESET y + 1 + l or more, CLEAR y less SIGHT less 1, and l more, or less, SILENT all; each s wider both ways.'

    private static void spanOfANoon() {
        for (int y = 0; y < 12; y++) {
            for (int lean = -2; lean <= 2; lean++) {
                for (int slack = 0; slack <= 3; slack++) {
                    alone("", y, lean, slack, FAST, 0, y + lean, y + lean);
                    alone("", y, lean, slack, BESET, 0, y + 1 + lean, 99);
                    for (int far = 1; far <= 5; far++) {
                        alone("", y, lean, slack, SIGHTED, far, y - far + lean, y - far + lean);
                    }
                    for (int sight = 0; sight <= 5; sight++) {
                        alone("sight " + sight + ";", y, lean, slack, CLEAR, 0, -99, y - sight - 1 + lean);
                    }
                    alone("", y, lean, slack, SILENT, 0, -99, 99);
                }
            }
        }
    }

    /** One NOON alone, whose SPAN without SLACK is told. */
    private static void alone(String text, int y, int lean, int slack, int kind, int far, int from, int to) {
        IceLogs logs = new IceLogs();
        Check.tell(logs, text);
        logs.lean(1, lean);
        note(logs, 1, y, kind, far);
        int low = Math.max(0, from - slack);
        int high = Math.min(12, to + slack);
        String call = "KIND " + kind + ", y " + y + ", far " + far + ", LEAN " + lean + ", " + text;
        if (low > high) {
            spanIs(call + " no row is in any", logs, slack, 0, 12, 1, 1);
        } else {
            spanIs(call, logs, slack, low, high, 0, kind == SILENT ? 0 : 1);
        }
    }

    // ---- 'EDGE BY LOGS: rows 0 .. 12 that are in most SPANS of x, week, YEAR: LOW, HIGH the least and greatest such; DOUBTED: how many SPANS do not have these.'

    private static IceLogs fasts(int... ys) {
        IceLogs logs = new IceLogs();
        for (int i = 0; i < ys.length; i++) {
            logs.noon(i % 6, 7, 14 + i / 6, 3, ys[i], FAST, 0);
        }
        return logs;
    }

    private static void edgeByLogs() {
        spanIs("one", fasts(0), 0, 0, 0, 0, 1);
        spanIs("one", fasts(11), 0, 11, 11, 0, 1);
        spanIs("two of one row", fasts(5, 5), 0, 5, 5, 0, 2);
        spanIs("two of two rows", fasts(5, 9), 0, 5, 9, 1, 2);
        spanIs("the ends", fasts(11, 0), 0, 0, 11, 1, 2);
        spanIs("two to one", fasts(5, 9, 9), 0, 9, 9, 1, 3);
        spanIs("two to two", fasts(5, 9, 9, 5), 0, 5, 9, 2, 4);
        spanIs("three rows", fasts(2, 6, 9), 0, 2, 9, 2, 3);
        spanIs("rows between are in no SPAN", fasts(2, 9), 1, 1, 10, 1, 2);
        spanIs("SLACK wide enough", fasts(2, 8), 3, 5, 5, 0, 2);
        spanIs("SLACK not wide enough", fasts(2, 9), 3, 0, 12, 1, 2);
        // row 12: BESET at y 11 alone, or SLACK; row 0: CLEAR, or SLACK
        IceLogs last = fasts(11);
        note(last, 5, 11, BESET, 0);
        spanIs("11, and 12", last, 0, 11, 12, 1, 2);
        spanIs("11, and 12 by SLACK 1", last, 1, 11, 12, 0, 2);
        IceLogs first = fasts(1);
        note(first, 5, 3, CLEAR, 0);
        spanIs("1, and 0", first, 0, 0, 1, 1, 2);
        spanIs("1, and 0 by SLACK 1", first, 1, 0, 1, 0, 2);
        // all SPANS there can be of x, week, YEAR: six SHIPS on seven DAYS
        int[] ys = new int[42];
        java.util.Arrays.fill(ys, 6);
        IceLogs all = fasts(ys);
        spanIs("42 SPANS", all, 0, 6, 6, 0, 42);
        for (int ship = 0; ship < 6; ship++) {
            all.lean(ship, ship < 3 ? -2 : 2);
        }
        spanIs("21 to 21", all, 0, 4, 8, 21, 42);
        all.lean(5, -2);
        spanIs("28 to 14", all, 0, 4, 4, 14, 42);
    }

    // ---- '(Without SPANS but of SILENT ones 0 to 12, none DOUBTED; if no row is in any, 0 to 12, all DOUBTED; SILENT ones don't count.)'

    private static void withoutSpans() {
        for (int slack = 0; slack <= 3; slack++) {
            spanIs("without SPANS", new IceLogs(), slack, 0, 12, 0, 0);
            IceLogs silent = new IceLogs();
            for (int ship = 0; ship < 6; ship++) {
                note(silent, ship, 2 * ship, SILENT, 0);
                spanIs("but of SILENT ones", silent, slack, 0, 12, 0, 0);
            }
            note(silent, 5, 6, FAST, 0);
            spanIs("SILENT ones don't count", silent, slack, 6 - slack, 6 + slack, 0, 1);
        }
        IceLogs none = new IceLogs();
        note(none, 0, 0, SIGHTED, 4);
        spanIs("no row is in any", none, 0, 0, 12, 1, 1);
        spanIs("no row is in any", none, 3, 0, 12, 1, 1);
        note(none, 1, 0, SIGHTED, 5);
        note(none, 2, 0, SILENT, 0);
        note(none, 3, 1, CLEAR, 0);
        spanIs("all DOUBTED", none, 0, 0, 12, 3, 3);
        spanIs("by SLACK 1 still", none, 1, 0, 12, 3, 3);
        spanIs("by SLACK 2 one has a row", none, 2, 0, 0, 2, 3);
        note(none, 4, 11, FAST, 0);
        spanIs("one row is in one", none, 0, 11, 11, 3, 4);
    }

    private static void spansOfXWeekYear() {
        // DAYS 14 .. 20 are week 2; of x 3; of YEAR 7
        for (int day = 12; day <= 22; day++) {
            IceLogs logs = new IceLogs();
            logs.noon(0, 7, day, 3, 6, FAST, 0);
            boolean isIn = day >= 14 && day <= 20;
            spanIs("DAY " + day, logs, 0, isIn ? 6 : 0, isIn ? 6 : 12, 0, isIn ? 1 : 0);
        }
        for (int x = 0; x < 10; x++) {
            IceLogs logs = new IceLogs();
            logs.noon(0, 7, 14, x, 6, FAST, 0);
            spanIs("x " + x, logs, 0, x == 3 ? 6 : 0, x == 3 ? 6 : 12, 0, x == 3 ? 1 : 0);
        }
        for (int year = 6; year <= 8; year++) {
            IceLogs logs = new IceLogs();
            logs.noon(0, year, 14, 3, 6, FAST, 0);
            spanIs("YEAR " + year, logs, 0, year == 7 ? 6 : 0, year == 7 ? 6 : 12, 0, year == 7 ? 1 : 0);
        }
        // SLIPPED and COPIED ones have none
        IceLogs slipped = new IceLogs();
        slipped.noon(0, 7, 14, 3, 6, FAST, 0);
        slipped.noon(0, 7, 15, 3, 9, FAST, 0);
        slipped.noon(0, 7, 16, 3, 6, FAST, 0);
        spanIs("a SLIPPED one", slipped, 0, 6, 6, 0, 2);
        IceLogs copied = new IceLogs();
        copied.noon(0, 7, 14, 3, 6, FAST, 0);
        copied.noon(0, 7, 15, 3, 6, FAST, 0);
        copied.noon(0, 7, 16, 9, 11, FAST, 0);
        spanIs("a COPIED one", copied, 0, 6, 6, 0, 1);
        Check.due(22, "GOOD as KNOWN by two", copied.span(3, 2, 7, 0, 2, 3), 2);
    }

    private static void noSuchSpan() {
        Bounds.ranges(22, "NONE: no such ones", Bounds::some, (l, a) -> l.span(a[0], a[1], a[2], a[3], a[4], a[5]), -1,
            new int[] {3, 3, 5, 0, 7, 0}, Bounds.to(0, 9), Bounds.to(0, 15), Bounds.to(0, 39), Bounds.to(0, 3), Bounds.to(0, 7), Bounds.to(0, 3));
        Bounds.ranges(23, "NONE: no such ones", Bounds::some, (l, a) -> l.fitting(a[0], a[1], a[2], a[3]), -1,
            new int[] {3, 5, 0, 7}, Bounds.to(0, 15), Bounds.to(0, 39), Bounds.to(0, 3), Bounds.to(0, 7));
        Bounds.ranges(24, "NONE: no such ones", Bounds::some, (l, a) -> l.odds(a[0], a[1], a[2], a[3], a[4], a[5]), -1,
            new int[] {3, 5, 3, 5, 0, 7}, Bounds.to(0, 9), Bounds.to(0, 11), Bounds.to(0, 15), Bounds.to(0, 39), Bounds.to(0, 3), Bounds.to(0, 7));
        Bounds.ranges(29, "NONE: no such ones", Bounds::some, (l, a) -> l.next(a[0], a[1], a[2], a[3]), -1,
            new int[] {3, 5, 0, 7}, Bounds.to(0, 15), Bounds.to(0, 39), Bounds.to(0, 3), Bounds.to(0, 7));
        Bounds.ranges(32, "NONE: no such ones", Bounds::some, (l, a) -> l.surely(a[0], a[1], a[2], a[3], a[4], a[5]), -1,
            new int[] {6, 11, 3, 5, 0, 7}, Bounds.to(0, 9), Bounds.to(0, 11), Bounds.to(0, 15), Bounds.to(0, 39), Bounds.to(0, 3),
            Bounds.to(0, 7));
    }

    // ---- 'FITTING: of a week and YEAR, all x: those NOISES by which the greatest number of SPANS (without SILENT ones) have THE EDGE of their x.'

    private static int noises(int from, int to) {
        int bits = 0;
        for (int noise = Math.max(0, from); noise <= Math.min(9, to); noise++) {
            bits |= 1 << noise;
        }
        return bits == 0 ? 1023 : bits;
    }

    private static int fit(String text, int lean, int slack, int y, int kind, int far) {
        IceLogs logs = Check.with(text);
        logs.lean(1, lean);
        note(logs, 1, y, kind, far);
        return logs.fitting(2, 7, slack, 1);
    }

    private static void fitting() {
        for (int y = 0; y < 12; y++) {
            for (int slack = 0; slack <= 3; slack++) {
                for (int lean = -2; lean <= 2; lean += 2) {
                    Check.due(23, "FAST " + y, fit("edge=noise;", lean, slack, y, FAST, 0), noises(y + lean - slack, y + lean + slack));
                    Check.due(23, "SIGHTED " + y, fit("edge=noise;", lean, slack, y, SIGHTED, 5), noises(y - 5 + lean - slack, y - 5 + lean + slack));
                    Check.due(23, "BESET " + y, fit("edge=noise;", lean, slack, y, BESET, 0), noises(y + 1 + lean - slack, 9));
                    Check.due(23, "CLEAR " + y, fit("edge=noise;", lean, slack, y, CLEAR, 0), noises(0, y - 3 + lean + slack));
                    Check.due(23, "SILENT " + y, fit("edge=noise;", lean, slack, y, SILENT, 0), 1023);
                }
            }
        }
        // THE EDGE is held: of NOISES 0 .. 4 it is 0, of 9 12
        Check.due(23, "held to 0", fit("edge=(noise-4)*3-1;", 0, 0, 0, FAST, 0), noises(0, 4));
        Check.due(23, "held to 12", fit("edge=noise*2;", 0, 0, 11, BESET, 0), noises(6, 9));
        // all x of the week, and no other week or YEAR
        IceLogs all = Check.with("edge=noise;");
        for (int x = 0; x < 6; x++) {
            all.noon(x, 7, 14 + x, x, x, FAST, 0);
            Check.due(23, "one SPAN each", all.fitting(2, 7, 0, x + 1), noises(0, x));
        }
        all.noon(0, 7, 20, 9, 5, FAST, 0);
        Check.due(23, "two to one", all.fitting(2, 7, 0, 7), noises(5, 5));
        all.noon(1, 7, 13, 9, 4, FAST, 0);
        all.noon(1, 7, 21, 9, 4, FAST, 0);
        all.noon(2, 6, 14, 9, 4, FAST, 0);
        all.noon(2, 8, 14, 9, 4, FAST, 0);
        Check.due(23, "of other weeks and YEARS", all.fitting(2, 7, 0, 11), noises(5, 5));
        Check.due(23, "of the week ahead", all.fitting(1, 7, 0, 11), noises(4, 4));
        Check.due(23, "of the week behind", all.fitting(3, 7, 0, 11), noises(4, 4));
        Check.due(23, "of the YEAR ahead", all.fitting(2, 6, 0, 11), noises(4, 4));
        Check.due(23, "of the YEAR behind", all.fitting(2, 8, 0, 11), noises(4, 4));
        IceLogs ends = Check.with("edge=noise;");
        ends.noon(0, 0, 0, 0, 3, FAST, 0);
        ends.noon(0, 39, 111, 9, 8, FAST, 0);
        Check.due(23, "week 0, YEAR 0", ends.fitting(0, 0, 0, 2), 1 << 3);
        Check.due(23, "week 15, YEAR 39", ends.fitting(15, 39, 0, 2), 1 << 8);
    }

    private static void fittingOfNone() {
        IceLogs logs = Check.with("edge=noise+1;");
        Check.due(23, "without SPANS all fit", logs.fitting(2, 7, 0, 0), 1023);
        note(logs, 0, 6, SILENT, 0);
        Check.due(23, "SILENT ones don't count", logs.fitting(2, 7, 0, 1), 1023);
        note(logs, 1, 0, FAST, 0);
        Check.due(23, "none has it: all alike", logs.fitting(2, 7, 0, 2), 1023);
        Check.due(23, "by SLACK 1 one has it", logs.fitting(2, 7, 1, 2), 1);
        note(logs, 2, 11, BESET, 0);
        Check.due(23, "none has either", logs.fitting(2, 7, 0, 3), 1023);
        note(logs, 3, 10, FAST, 0);
        Check.due(23, "the last NOISE has one", logs.fitting(2, 7, 0, 4), 1 << 9);
        Check.due(23, "as KNOWN by three", logs.fitting(2, 7, 0, 3), 1023);
        // all on LAND: none is GOOD
        Check.tell(logs, "edge=noise+1;land 3 0;land 3 10;land 3 11;");
        Check.due(23, "none is GOOD", logs.fitting(2, 7, 0, 4), 1023);
    }

    // ---- 'ODDS of a cell: how many of these have ICE there.'

    private static void odds() {
        IceLogs logs = Check.with("edge=noise+3;land 5 0;lead if x==6;");
        for (int y = 0; y < 12; y++) {
            int icy = Math.max(0, Math.min(10, 12 - y));
            Check.due(24, "of all NOISES, y " + y, logs.odds(0, y, 2, 7, 0, 0), 100 * icy + 10);
            Check.due(24, "LAND", logs.odds(5, 0, 2, 7, 0, 0), 10);
            Check.due(24, "LEAD", logs.odds(6, y, 2, 7, 0, 0), 10);
        }
        note(logs, 0, 7, FAST, 0);
        for (int y = 0; y < 12; y++) {
            Check.due(24, "of one NOISE, y " + y, logs.odds(9, y, 2, 7, 0, 1), y < 7 ? 101 : 1);
            Check.due(24, "of three NOISES, y " + y, logs.odds(9, y, 2, 7, 1, 1), 100 * Math.max(0, Math.min(3, 8 - y)) + 3);
        }
        Check.due(24, "all have ICE", Check.with("edge=12;").odds(9, 11, 15, 39, 3, 0), 1010);
        Check.due(24, "none has", Check.with("edge=0;").odds(0, 0, 0, 0, 0, 0), 10);
    }

    // ---- 'KEEPERS: two SHIPS (a below b) on one DAY of one YEAR, GOOD, of one x, no more than SIGHT apart by y, each FAST or SIGHTED'

    private static void keepersBySight() {
        for (int sight = 0; sight <= 5; sight++) {
            for (int apart = 0; apart <= 7; apart++) {
                for (int turn = 0; turn < 2; turn++) {
                    IceLogs logs = Check.with("sight " + sight + ";");
                    logs.noon(2, 7, 14, 3, turn == 0 ? 2 : 2 + apart, FAST, 0);
                    logs.noon(4, 7, 14, 3, turn == 0 ? 2 + apart : 2, FAST, 0);
                    boolean near = apart <= sight;
                    Check.due(25, "SIGHT " + sight + ", " + apart + " apart", logs.keepers(2, 4, 2, 0), near ? 1 : 0);
                    Check.due(25, "a's edge less b's", logs.keepers(2, 4, 2, 1), !near ? 0 : turn == 0 ? -apart : apart);
                }
            }
        }
        // apart by y, not by the edges: 5, and 8 less 5
        IceLogs far = Check.with("sight 3;");
        far.noon(0, 7, 14, 3, 5, FAST, 0);
        far.noon(1, 7, 14, 3, 8, SIGHTED, 5);
        Check.due(25, "apart by y", far.keepers(0, 1, 2, 0), 1);
        Check.due(25, "a's edge less b's", far.keepers(0, 1, 2, 1), 2);
        IceLogs both = Check.with("sight 2;");
        both.noon(0, 7, 14, 3, 5, SIGHTED, 5);
        both.noon(1, 7, 14, 3, 7, SIGHTED, 1);
        Check.due(25, "each SIGHTED", both.keepers(0, 1, 2, 1), 0 - 6);
        for (int kind = 0; kind < 5; kind++) {
            for (int other = 0; other < 5; other++) {
                IceLogs logs = new IceLogs();
                logs.noon(0, 7, 14, 3, 6, kind, kind == SIGHTED ? 2 : 0);
                logs.noon(5, 7, 14, 3, 6, other, other == SIGHTED ? 3 : 0);
                boolean each = kind <= SIGHTED && other <= SIGHTED;
                Check.due(25, "KINDS " + kind + ", " + other, logs.keepers(0, 5, 2, 0), each ? 1 : 0);
                Check.due(25, "KINDS " + kind + ", " + other, logs.keepers(0, 5, 2, 1), each ? (other == SIGHTED ? 3 : 0) - (kind == SIGHTED ? 2 : 0) : 0);
            }
        }
    }

    private static void keepersOfOneDay() {
        int[][] others = {{7, 14, 3, 1}, {7, 13, 3, 0}, {7, 15, 3, 0}, {6, 14, 3, 0}, {8, 14, 3, 0}, {7, 14, 2, 0}, {7, 14, 4, 0}};
        for (int[] o : others) {
            IceLogs logs = new IceLogs();
            logs.noon(0, 7, 14, 3, 6, FAST, 0);
            logs.noon(1, o[0], o[1], o[2], 6, FAST, 0);
            Check.due(25, "YEAR " + o[0] + ", DAY " + o[1] + ", x " + o[2], logs.keepers(0, 1, 2, 0), o[3]);
        }
        // on every DAY, in YEARS 0 and 39: 60 of them
        IceLogs many = new IceLogs();
        for (int i = 0; i < 60; i++) {
            int year = i % 2 * 39;
            int day = i < 2 ? 0 : i < 4 ? 111 : i;
            many.noon(0, year, day, 9, 6, FAST, 0);
            many.noon(5, year, day, 9, 6, SIGHTED, 2);
            Check.due(25, "how many such DAYS", many.keepers(0, 5, 2 * i + 2, 0), i + 1);
            Check.due(25, "the sum", many.keepers(0, 5, 2 * i + 2, 1), 2 * i + 2);
            Check.due(25, "one is not KNOWN", many.keepers(0, 5, 2 * i + 1, 0), i);
        }
        // a SLIPPED one is not GOOD, the one of the other SHIP neither
        for (int bad = 0; bad < 2; bad++) {
            IceLogs logs = new IceLogs();
            for (int ship = 0; ship < 2; ship++) {
                logs.noon(ship, 7, 13, 3, ship == bad ? 4 : 6, FAST, 0);
                logs.noon(ship, 7, 14, 3, 6, FAST, 0);
                logs.noon(ship, 7, 15, 3, ship == bad ? 4 : 6, FAST, 0);
            }
            Check.due(25, "both GOOD on two DAYS", logs.keepers(0, 1, 6, 0), 2);
            Check.due(25, "4 and 6 on these", logs.keepers(0, 1, 6, 1), bad == 0 ? -4 : 4);
        }
    }

    private static int keepers(IceLogs logs, int... a) {
        return logs.keepers(a[0], a[1], a[2], a[3]);
    }

    private static void noSuchKeepers() {
        Bounds.ranges(25, "-1000: no such ones, a not below b", Bounds::some, BoundsOfLogsTest::keepers, -1000, new int[] {0, 5, 7, 0},
            Bounds.to(0, 4), Bounds.to(1, 5), Bounds.to(0, 7), Bounds.to(0, 1));
        for (int a = 0; a < 6; a++) {
            for (int b = 0; b <= a; b++) {
                Check.due(25, "-1000: a not below b", Bounds.some().keepers(a, b, 7, 0), -1000);
            }
            for (int b = a + 1; b < 6; b++) {
                Check.due(25, "none of them", new IceLogs().keepers(a, b, 0, 0), 0);
                Check.due(25, "no sum", new IceLogs().keepers(a, b, 0, 1), 0);
            }
        }
    }

    // ---- 'THE LEANS that fit them: SHIP 0 has 0, SHIPS 1 .. 3 -2 .. 2 each: .. of alike ones the first ..; SHIPS 4, 5 aside.'

    private static IceLogs met(int... pairs) {
        IceLogs logs = Check.with("sight 5;");
        for (int i = 0; i < pairs.length; i += 4) {
            logs.noon(pairs[i], i, 50, 3, pairs[i + 2], FAST, 0);
            logs.noon(pairs[i + 1], i, 50, 3, pairs[i + 3], FAST, 0);
        }
        return logs;
    }

    private static void leansAre(String call, IceLogs logs, int first, int second, int third) {
        int[] want = {0, first, second, third};
        for (int ship = 0; ship < 4; ship++) {
            Check.due(26, call + ": SHIP " + ship, logs.leanOf(ship, logs.count(3)), want[ship]);
        }
    }

    private static void leansThatFit() {
        Bounds.ranges(26, "-100: no such ones", Bounds::some, (l, a) -> l.leanOf(a[0], a[1]), -100, new int[] {0, 7}, Bounds.to(0, 3),
            Bounds.to(0, 7));
        leansAre("of alike ones the first", new IceLogs(), -2, -2, -2);
        for (int more = -5; more <= 5; more++) {
            // SHIP 0 sees so much more than the other one
            int fit = Math.max(-2, Math.min(2, more));
            leansAre("0 and 1", met(0, 1, 6 + Math.max(0, more), 6 + Math.max(0, -more)), fit, -2, -2);
            leansAre("0 and 2", met(0, 2, 6 + Math.max(0, more), 6 + Math.max(0, -more)), -2, fit, -2);
            leansAre("0 and 3", met(0, 3, 6 + Math.max(0, more), 6 + Math.max(0, -more)), -2, -2, fit);
            leansAre("0 and 4", met(0, 4, 6 + Math.max(0, more), 6 + Math.max(0, -more)), -2, -2, -2);
            leansAre("4 and 5", met(4, 5, 6 + Math.max(0, more), 6 + Math.max(0, -more)), -2, -2, -2);
            leansAre("1 and 4", met(1, 4, 6 + Math.max(0, more), 6 + Math.max(0, -more)), -2, -2, -2);
            leansAre("3 and 5", met(3, 5, 6 + Math.max(0, more), 6 + Math.max(0, -more)), -2, -2, -2);
        }
        // between two that are free SHIP 1's least comes first, then SHIP 2's
        for (int more = -5; more <= 5; more++) {
            // least of |more + first - second|: the least first that can make it least
            int first = more >= 0 ? -2 : Math.min(2, -2 - more);
            int second = more >= 0 ? Math.min(2, -2 + more) : -2;
            leansAre("1 and 2 by " + more, met(1, 2, 6 + Math.max(0, more), 6 + Math.max(0, -more)), first, second, -2);
            leansAre("1 and 3 by " + more, met(1, 3, 6 + Math.max(0, more), 6 + Math.max(0, -more)), first, -2, second);
            leansAre("2 and 3 by " + more, met(2, 3, 6 + Math.max(0, more), 6 + Math.max(0, -more)), -2, first, second);
        }
        leansAre("all three", met(0, 1, 7, 6, 1, 2, 6, 6, 2, 3, 8, 7), 1, 1, 2);
        // without sign: 2 and -2 leave 4 by each LEAN between, the first is -2
        leansAre("without sign", met(0, 1, 8, 6, 0, 1, 6, 8), -2, -2, -2);
        leansAre("two to one", met(0, 1, 8, 6, 0, 1, 6, 8, 0, 1, 8, 6), 2, -2, -2);
        // LEANS told are none of it
        IceLogs told = met(0, 1, 7, 6);
        told.lean(0, 2);
        told.lean(1, -2);
        leansAre("(without LEANS)", told, 1, -2, -2);
        // KEEPERS asked ahead, or another n, do not matter
        IceLogs turns = met(0, 1, 7, 6, 0, 1, 6, 8, 0, 1, 6, 8);
        Check.due(26, "by two", turns.leanOf(1, 2), 1);
        Check.due(26, "by six", turns.leanOf(1, 6), -2);
        Check.due(26, "by two again", turns.leanOf(1, 2), 1);
        for (int i = 0; i < 9; i++) {
            Check.due(25, "KEEPERS", turns.keepers(0, 1, 2, 1), 1);
        }
        Check.due(26, "by six again", turns.leanOf(1, 6), -2);
        Check.due(26, "by two again", turns.leanOf(1, 2), 1);
        for (int i = 0; i < 9; i++) {
            Check.due(25, "KEEPERS", turns.keepers(0, 1, 6, 0), 3);
        }
        Check.due(26, "by two again", turns.leanOf(1, 2), 1);
        Bounds.Call lean = (l, a) -> l.leanOf(1, l.count(3));
        IceLogs asked = Bounds.some();
        lean.of(asked);
        Check.due(26, "Nothing is told by that", java.util.Arrays.equals(Bounds.seen(asked), Bounds.seen(Bounds.some())), true);
    }

    // ---- 'SURE is what has LOW and HIGH alike (SLACK 0) by a SPAN at least that is no SILENT one's.'

    private static void sureIs(String call, IceLogs logs, boolean sure) {
        int n = logs.count(3);
        Check.due(27, call + ": TREND's YEARS", logs.trend(3, 2, n, 0), sure ? 1 : 0);
        Check.due(39, call + ": said", logs.say(3, 2, 7, n) / 2 % 2, sure ? 1 : 0);
        logs.picture(7, 2, 3, 6);
        Check.due(35, call + ": PICTURES", logs.joined(logs.count(3), 2), sure ? 1 : 0);
    }

    private static IceLogs kinds(int... kindsAndYs) {
        IceLogs logs = new IceLogs();
        for (int i = 0; i < kindsAndYs.length; i += 2) {
            note(logs, i / 2, kindsAndYs[i + 1], kindsAndYs[i], kindsAndYs[i] == SIGHTED ? 2 : 0);
        }
        return logs;
    }

    private static void sure() {
        sureIs("without SPANS", kinds(), false);
        sureIs("but of SILENT ones", kinds(SILENT, 6, SILENT, 6), false);
        sureIs("FAST", kinds(FAST, 6), true);
        sureIs("SIGHTED", kinds(SIGHTED, 6), true);
        sureIs("SIGHTED, of row 0", kinds(SIGHTED, 2), true);
        sureIs("SIGHTED, of row -1", kinds(SIGHTED, 1), false);
        sureIs("BESET at y 11: row 12", kinds(BESET, 11), true);
        sureIs("BESET at y 10: rows 11, 12", kinds(BESET, 10), false);
        sureIs("CLEAR at y 3: row 0", kinds(CLEAR, 3), true);
        sureIs("CLEAR at y 4: rows 0, 1", kinds(CLEAR, 4), false);
        sureIs("CLEAR at y 2: no row", kinds(CLEAR, 2), false);
        sureIs("two rows of one SPAN each", kinds(FAST, 6, FAST, 7), false);
        sureIs("two to one", kinds(FAST, 6, FAST, 7, FAST, 6), true);
        sureIs("BESET and CLEAR, one row", kinds(BESET, 5, CLEAR, 9), true);
        sureIs("BESET and CLEAR, two rows", kinds(BESET, 4, CLEAR, 9), false);
        sureIs("a SILENT one beside", kinds(SILENT, 1, FAST, 6), true);
        sureIs("no row, and one row", kinds(CLEAR, 0, CLEAR, 1, FAST, 6), true);
    }

    // ---- 'TREND of x and week: of YEARS in which these are SURE the first 7: BACK: .. the later one's edge is less, FORTH: greater.'

    private static IceLogs years(int... yearsAndEdges) {
        IceLogs logs = new IceLogs();
        for (int i = 0; i < yearsAndEdges.length; i += 2) {
            logs.noon(i % 6, yearsAndEdges[i], 14, 3, yearsAndEdges[i + 1], FAST, 0);
        }
        return logs;
    }

    private static void trendIs(String call, IceLogs logs, int many, int back, int forth, int ways) {
        int[] want = {many, back, forth, ways};
        for (int what = 0; what < 4; what++) {
            Check.due(27, call + ", what " + what, logs.trend(3, 2, logs.count(3), what), want[what]);
        }
    }

    private static void theFirst7() {
        Bounds.ranges(27, "NONE: no such ones", Bounds::some, (l, a) -> l.trend(a[0], a[1], a[2], a[3]), -1, new int[] {3, 3, 7, 0},
            Bounds.to(0, 9), Bounds.to(0, 15), Bounds.to(0, 7), Bounds.to(0, 3));
        trendIs("none SURE", new IceLogs(), 0, 0, 0, 1);
        trendIs("YEAR 0", years(0, 6), 1, 0, 0, 1);
        trendIs("YEAR 39", years(39, 6), 1, 0, 0, 1);
        trendIs("YEARS 0 and 39", years(0, 6, 39, 5), 2, 1, 0, 1);
        trendIs("told later, but an earlier YEAR", years(39, 5, 0, 6), 2, 1, 0, 1);
        trendIs("alike", years(0, 6, 39, 6), 2, 0, 0, 2);
        trendIs("FORTH", years(0, 6, 39, 7), 2, 0, 1, 2);
        trendIs("six", years(0, 1, 5, 2, 10, 3, 15, 4, 20, 5, 25, 6), 6, 0, 15, 720);
        trendIs("seven", years(0, 1, 5, 2, 10, 3, 15, 4, 20, 5, 25, 6, 39, 7), 7, 0, 21, 5040);
        trendIs("an eighth is not one of the first", years(0, 1, 5, 2, 10, 3, 15, 4, 20, 5, 25, 6, 38, 7, 39, 0), 7, 0, 21, 5040);
        trendIs("told last, but of the first", years(1, 1, 5, 2, 10, 3, 15, 4, 20, 5, 25, 6, 39, 7, 0, 11), 7, 6, 15, 0 + waysByHand(11, 1, 2, 3, 4, 5, 6));
        trendIs("all YEARS", allYears(), 7, 21, 0, 1);
        trendIs("edges 0 and 12 by BESET and CLEAR", ends(), 2, 1, 0, 1);
    }

    private static IceLogs allYears() {
        IceLogs logs = new IceLogs();
        for (int year = 39; year >= 0; year--) {
            logs.noon(0, year, 14, 3, Math.max(0, 11 - year), FAST, 0);
        }
        return logs;
    }

    private static IceLogs ends() {
        IceLogs logs = new IceLogs();
        logs.noon(0, 3, 14, 3, 11, BESET, 0);
        logs.noon(0, 4, 14, 3, 3, CLEAR, 0);
        return logs;
    }

    // ---- 'Of all ways to give these edges to these YEARS those with BACK less FORTH no less.'

    private static int less(int[] edges) {
        int less = 0;
        for (int i = 0; i < edges.length; i++) {
            for (int j = 0; j < i; j++) {
                less += Integer.compare(edges[j], edges[i]);
            }
        }
        return less;
    }

    private static int waysByHand(int... edges) {
        return waysFrom(edges.clone(), 0, less(edges));
    }

    private static int waysFrom(int[] edges, int from, int least) {
        if (from == edges.length) {
            return less(edges) >= least ? 1 : 0;
        }
        int sum = 0;
        for (int i = from; i < edges.length; i++) {
            swap(edges, from, i);
            sum += waysFrom(edges, from + 1, least);
            swap(edges, from, i);
        }
        return sum;
    }

    private static void swap(int[] edges, int i, int j) {
        int kept = edges[i];
        edges[i] = edges[j];
        edges[j] = kept;
    }

    private static void ways() {
        Check.due(27, "by hand: 3 of 6", waysByHand(6, 4, 5), 3);
        int drawn = 1;
        for (int many = 0; many <= 7; many++) {
            for (int run = 0; run < 25; run++) {
                int[] edges = new int[many];
                int[] told = new int[2 * many];
                for (int i = 0; i < many; i++) {
                    drawn = drawn * 1103515245 + 12345;
                    edges[i] = (drawn >>> 16) % (run % 2 == 0 ? 12 : 3);
                    told[2 * i] = 5 * i;
                    told[2 * i + 1] = edges[i];
                }
                IceLogs logs = years(told);
                int n = logs.count(3);
                Check.due(27, "ways of " + java.util.Arrays.toString(edges), logs.trend(3, 2, n, 3), waysByHand(edges));
                Check.due(27, "its ways asked again", logs.trend(3, 2, n, 3), waysByHand(edges));
                Check.due(27, "of another x", logs.trend(4, 2, n, 3), 1);
                Check.due(27, "its ways behind these", logs.trend(3, 2, n, 3), waysByHand(edges));
                Check.due(27, "BACK less FORTH", logs.trend(3, 2, n, 1) - logs.trend(3, 2, n, 2), less(edges));
            }
        }
    }

    // ---- 'NOWHERE: x and week of a YEAR without GOOD NOONS.'

    private static void nowhere() {
        Bounds.ranges(28, "NONE: no such ones", Bounds::some, (l, a) -> l.nowhere(a[0], a[1]), -1, new int[] {5, 7}, Bounds.to(0, 39),
            Bounds.to(0, 7));
        Check.due(28, "all of 10 times 16", new IceLogs().nowhere(0, 0), 160);
        // 120 of them by 120 FACTS: SHIP s keeps to x s, SHIP 5 goes on to x 6 .. 9
        IceLogs logs = new IceLogs();
        for (int week = 0; week < 16; week++) {
            for (int ship = 0; ship < 6; ship++) {
                logs.noon(ship, 39, 7 * week, ship, 6, SILENT, 0);
                Check.due(28, "one less", logs.nowhere(39, logs.count(3)), 160 - logs.count(3));
            }
        }
        for (int week = 0; week < 12; week++) {
            logs.noon(5, 39, 7 * week + 2, 6, 6, SILENT, 0);
            logs.noon(4, 39, 7 * week + 3, 7, 6, SILENT, 0);
        }
        Check.due(28, "120 FACTS", logs.count(3), 120);
        Check.due(28, "40 are left", logs.nowhere(39, 120), 40);
        Check.due(28, "in another YEAR", logs.nowhere(38, 120), 160);
        // one cell twice; the first and the last DAY of a week
        IceLogs twice = new IceLogs();
        twice.noon(0, 0, 7, 3, 6, FAST, 0);
        twice.noon(0, 0, 13, 3, 7, BESET, 0);
        Check.due(28, "of one week", twice.nowhere(0, 2), 159);
        twice.noon(0, 0, 14, 3, 7, CLEAR, 0);
        Check.due(28, "of two weeks", twice.nowhere(0, 3), 158);
    }

    // ---- 'NEXT: the x with which the greatest number of FITTING NOISES that have one EDGE there is least; of alike ones the least.'

    private static void next() {
        Check.due(29, "all alike", new IceLogs().next(0, 0, 0, 0), 0);
        Check.due(29, "all apart in all x", Check.with("edge=noise;").next(0, 0, 0, 0), 0);
        for (int x = 0; x < 10; x++) {
            String here = "(1/(1+(x-" + x + ")*(x-" + x + ")))";
            Check.due(29, "x " + x + " tells most apart", Check.with("edge=noise*" + here + ";").next(2, 7, 0, 0), x);
            Check.due(29, "x " + x + " tells two apart", Check.with("edge=noise/9*" + here + ";").next(2, 7, 0, 0), x);
            Check.due(29, "from x " + x + " on", Check.with("edge=noise/5*((x+10-" + x + ")/10);").next(2, 7, 0, 0), x);
            // of one FITTING NOISE all x have one
            IceLogs one = Check.with("edge=noise;");
            note(one, 0, x, FAST, 0);
            Check.due(29, "of one NOISE", one.next(2, 7, 0, 1), 0);
        }
        // 5 of 10 in x 4, 6 of 10 elsewhere; 4 and 6 in x 4 but 5 and 5 in x 7: the greatest number counts
        Check.due(29, "the greatest number", Check.with("edge=noise/6*(1/(1+(x-4)*(x-4)))+noise/5*(1/(1+(x-7)*(x-7)));").next(2, 7, 0, 0), 7);
        // 10 of x 0, 5 and 5 of x 1 (11 and 12), 6 and 4 of x 2
        Check.due(29, "row 12 is a row", Check.with("edge=(11+noise/5)*(1/(1+(x-1)*(x-1)))+noise/6*(1/(1+(x-2)*(x-2)));").next(2, 7, 0, 0), 1);
        Check.due(29, "row 12 is a row", Check.with("edge=12-noise/5*(1/(1+(x-1)*(x-1)))-noise/6*(1/(1+(x-2)*(x-2)));").next(2, 7, 0, 0), 1);
        IceLogs turns = Check.with("edge=noise/5*5*(1/(1+(x-1)*(x-1)))+noise*(1/(1+(x-2)*(x-2)));");
        turns.noon(0, 7, 14, 2, 4, FAST, 0);
        turns.noon(1, 7, 15, 2, 6, FAST, 0);
        for (int i = 0; i < 3; i++) {
            Check.due(29, "as KNOWN by none", turns.next(2, 7, 0, 0), 2);
            Check.due(29, "as KNOWN by one", turns.next(2, 7, 0, 1), 0);
            Check.due(29, "as KNOWN by two", turns.next(2, 7, 0, 2), 1);
        }
        // held to 12: there many have one EDGE
        Check.due(29, "THE EDGE is held", Check.with("edge=noise+12*(1-x/9);").next(2, 7, 0, 0), 9);
    }

    // ---- 'SURELY: with each FITTING NOISE.', promise 32: 'The last week in which it gets out SURELY, by what FITS in a week (of looking: 0 .. 15); -2: in none'

    private static void surely() {
        Check.due(32, "in week 15", Check.with("edge=0;").surely(0, 11, 15, 39, 3, 0), 15);
        Check.due(32, "in none", Check.with("edge=12;").surely(0, 11, 0, 0, 0, 0), -2);
        Check.due(32, "LAND", Check.with("edge=0;land 0 11;").surely(0, 11, 0, 0, 0, 0), -2);
        Check.due(32, "in week 0 alone", Check.with("edge=12*week;").surely(0, 11, 15, 0, 0, 0), 0);
        // NOISE n lets it out up to week n: with those that fit, up to the least of these
        IceLogs logs = Check.with("edge=12*((week+15-noise)/16);");
        Check.due(32, "with all", logs.surely(3, 11, 4, 7, 0, 0), 0);
        for (int look = 0; look < 16; look++) {
            IceLogs at = Check.with("edge=12*((week+15-noise)/16)*(1-1/(1+(week-" + look + ")*(week-" + look + ")))+noise*(1/(1+(week-" + look
                + ")*(week-" + look + ")));");
            at.noon(0, 7, 7 * look, 3, 4, FAST, 0);
            // NOISE 4 alone fits in the week of looking, in which itself y 11 is open
            Check.due(32, "looking in week " + look, at.surely(3, 11, look, 7, 0, 1), Math.max(4, look));
            Check.due(32, "nobody KNOWS it", at.surely(3, 11, look, 7, 0, 0), look == 0 ? 0 : look);
        }
        // NOISE 9 has ICE at y 11 from week 10 on, the others later or not at all
        Check.due(32, "without SPANS", Check.with("edge=noise+3*((week+15-noise)/16);").surely(3, 11, 0, 7, 0, 0), 9);
        // one that does not get out is enough
        IceLogs one = Check.with("edge=12*(1/(10-noise));");
        Check.due(32, "all but NOISE 9", one.surely(3, 11, 2, 7, 0, 0), -2);
        note(one, 0, 0, FAST, 0);
        Check.due(32, "NOISE 9 does not fit", one.surely(3, 11, 2, 7, 0, 1), 15);
    }

    // ---- 'JOINED: PICTURES whose YEAR, week, x are SURE: the shift (-5 .. 5) with which most of their rows are that edge and it; of alike ones the least without sign, then the lesser.'

    private static IceLogs pictures(int... shifts) {
        IceLogs logs = new IceLogs();
        for (int i = 0; i < shifts.length; i++) {
            logs.noon(i % 6, i, 14, 3, 6, FAST, 0);
            logs.picture(i, 2, 3, 6 + shifts[i]);
        }
        return logs;
    }

    private static void joinedIs(IceLogs logs, int shift, int alike, int many) {
        int[] want = {shift, alike, many};
        for (int what = 0; what < 3; what++) {
            Check.due(35, "joined, what " + what, logs.joined(logs.count(3), what), want[what]);
        }
    }

    private static void joined() {
        Bounds.ranges(35, "-100: no such ones", Bounds::some, (l, a) -> l.joined(a[0], a[1]), -100, new int[] {7, 0}, Bounds.to(0, 7),
            Bounds.to(0, 2));
        joinedIs(new IceLogs(), 0, 0, 0);
        for (int shift = -6; shift <= 6; shift++) {
            boolean isIn = shift >= -5 && shift <= 5;
            joinedIs(pictures(shift), isIn ? shift : 0, isIn ? 1 : 0, 1);
            joinedIs(pictures(shift, shift), isIn ? shift : 0, isIn ? 2 : 0, 2);
            for (int other = -5; other <= 5; other++) {
                if (isIn && other != shift) {
                    int nearer = Math.abs(shift) != Math.abs(other) ? (Math.abs(shift) < Math.abs(other) ? shift : other) : Math.min(shift, other);
                    joinedIs(pictures(shift, other), nearer, 1, 2);
                    joinedIs(pictures(shift, other, shift), shift, 2, 3);
                }
            }
        }
        // rows 0 and 12, edges 0 and 12
        IceLogs ends = new IceLogs();
        ends.noon(0, 3, 14, 3, 11, BESET, 0);
        ends.picture(3, 2, 3, 12);
        joinedIs(ends, 0, 1, 1);
        ends.picture(3, 2, 3, 7);
        ends.picture(3, 2, 3, 7);
        joinedIs(ends, -5, 2, 3);
        ends.picture(3, 2, 3, 6);
        ends.picture(3, 2, 3, 6);
        ends.picture(3, 2, 3, 6);
        joinedIs(ends, -5, 2, 6);
        // SURE as KNOWN by n, SLACK 0
        IceLogs known = new IceLogs();
        known.picture(3, 2, 3, 8);
        joinedIs(known, 0, 0, 0);
        known.noon(0, 3, 14, 3, 6, FAST, 0);
        joinedIs(known, 2, 1, 1);
        known.noon(1, 3, 14, 3, 7, FAST, 0);
        joinedIs(known, 0, 0, 0);
        known.noon(2, 3, 14, 3, 7, FAST, 0);
        joinedIs(known, 1, 1, 1);
        Check.due(35, "as KNOWN by two", known.joined(2, 0), 2);
        known.annul(0);
        joinedIs(known, 0, 0, 0);
        IceLogs all = new IceLogs();
        all.noon(0, 39, 111, 9, 6, FAST, 0);
        for (int i = 1; i < 120; i++) {
            all.picture(39, 15, 9, 3);
        }
        joinedIs(all, -3, 119, 119);
    }

    // ---- 'SAY of x, week, YEAR (bits): ..'

    private static void sayIs(String call, IceLogs logs, int want) {
        Check.due(39, call, logs.say(3, 2, 7, logs.count(3)), want);
    }

    private static void say() {
        Bounds.ranges(39, "NONE: no such ones", Bounds::some, (l, a) -> l.say(a[0], a[1], a[2], a[3]), -1, new int[] {3, 3, 5, 7},
            Bounds.to(0, 9), Bounds.to(0, 15), Bounds.to(0, 39), Bounds.to(0, 7));
        sayIs("nothing: none is DOUBTED", new IceLogs(), 4);
        sayIs("1: a GOOD NOON, SILENT", kinds(SILENT, 6), 1 + 4);
        sayIs("1: no GOOD one", Check.with("land 3 6;"), 4);
        IceLogs land = Check.with("land 3 6;");
        note(land, 0, 6, FAST, 0);
        sayIs("1: no GOOD one", land, 4);
        // 8: the NOISES are 3 at most
        for (int many = 1; many <= 5; many++) {
            IceLogs logs = Check.with("edge=noise/" + many + "*6;");
            note(logs, 0, 0, FAST, 0);
            sayIs("8: " + many + " FITTING NOISES", logs, 1 + 2 + 4 + (many <= 3 ? 8 : 0));
        }
        // .. and have all of the SPANS, of any x of that week and YEAR
        IceLogs logs = Check.with("edge=noise;");
        logs.noon(0, 7, 14, 9, 6, FAST, 0);
        sayIs("8: SPANS of another x", logs, 4 + 8);
        logs.noon(1, 7, 20, 0, 6, SILENT, 0);
        sayIs("8: SILENT ones are none", logs, 4 + 8);
        logs.noon(2, 7, 21, 0, 5, FAST, 0);
        logs.noon(2, 7, 13, 0, 5, FAST, 0);
        logs.noon(2, 8, 14, 0, 5, FAST, 0);
        sayIs("8: of other weeks and YEARS", logs, 4 + 8);
        logs.noon(3, 7, 20, 0, 5, FAST, 0);
        sayIs("8: not all of them", logs, 4);
        sayIs("8: but SILENT ones", kinds(SILENT, 6), 1 + 4);
        IceLogs none = Check.with("edge=noise/8*3+9*(2/(2+noise/8));");
        note(none, 0, 0, FAST, 0);
        sayIs("8: none of them", none, 1 + 2 + 4);
        // 2 and 4: DOUBTED, but SURE; SURE not, nor DOUBTED
        sayIs("SURE, one DOUBTED", kinds(FAST, 6, FAST, 6, FAST, 9), 1 + 2);
        sayIs("not SURE, one DOUBTED", kinds(FAST, 6, FAST, 9), 1);
        sayIs("not SURE, none DOUBTED", kinds(BESET, 6), 1 + 4);
        sayIs("no row is in any: all DOUBTED", kinds(CLEAR, 0), 1);
        // 32: of YEAR, week, x
        int[][] others = {{7, 2, 3, 32}, {6, 2, 3, 0}, {8, 2, 3, 0}, {7, 1, 3, 0}, {7, 3, 3, 0}, {7, 2, 2, 0}, {7, 2, 4, 0}};
        for (int[] o : others) {
            IceLogs picture = new IceLogs();
            picture.picture(o[0], o[1], o[2], 6);
            sayIs("32: a PICTURE of YEAR " + o[0] + ", week " + o[1] + ", x " + o[2], picture, 4 + o[3]);
            Check.due(39, "32: nobody KNOWS it", picture.say(3, 2, 7, 0), 4);
            picture.annul(0);
            sayIs("32: annulled", picture, 4);
            Check.due(39, "32: nobody KNOWS that", picture.say(3, 2, 7, 1), 4 + o[3]);
        }
        // a NOON of that week as DAY, TAILS of the YEAR are no PICTURES
        IceLogs noPicture = new IceLogs();
        noPicture.noon(0, 7, 2, 3, 6, FAST, 0);
        noPicture.tails(7, 2);
        sayIs("32: no PICTURE", noPicture, 4);
        // all at once
        IceLogs all = Check.with("edge=noise;");
        int[] edges = {9, 8, 7, 5};
        for (int i = 0; i < 4; i++) {
            all.noon(0, 4 + i, 14, 3, edges[i], FAST, 0);
        }
        all.picture(7, 2, 3, 5);
        sayIs("all", all, 63);
    }

    // ---- '16: TREND's ways by 20 are not above all'

    private static void sayByTrend() {
        int[][] edges = {{}, {6}, {6, 5}, {6, 5, 4}, {7, 6, 5, 4}, {7, 6, 5, 5}, {7, 6, 4, 5}, {8, 7, 6, 5, 5}, {8, 7, 5, 5, 5}, {8, 7, 6, 4, 5},
            {8, 6, 7, 4, 5}, {8, 5, 6, 7, 4}, {9, 8, 7, 6, 5, 4}, {9, 7, 8, 5, 6, 4}, {5, 6, 9, 4, 8, 7}, {9, 8, 7, 6, 5, 4, 3}, {9, 6, 7, 8, 3, 5, 4},
            {9, 5, 6, 7, 8, 3, 4}, {6, 6, 6, 6, 6, 6, 6}, {7, 6, 6, 6, 6, 6, 5}, {7, 7, 7, 7, 6, 6, 6}, {7, 7, 7, 6, 6, 6}, {7, 7, 6, 6, 6},
            {3, 3, 2, 3, 2, 1, 2}, {3, 3, 2, 2, 3, 1, 2}};
        int all = 1;
        int yes = 0;
        for (int[] e : edges) {
            all = 1;
            for (int i = 2; i <= e.length; i++) {
                all *= i;
            }
            int[] told = new int[2 * e.length];
            for (int i = 0; i < e.length; i++) {
                told[2 * i] = i;
                told[2 * i + 1] = e[i];
            }
            boolean said = waysByHand(e) * 20 <= all;
            yes += said ? 1 : 0;
            IceLogs logs = years(told);
            Check.due(39, "16: " + java.util.Arrays.toString(e), logs.say(3, 2, 39, logs.count(3)), 4 + (said ? 16 : 0));
        }
        Check.due(39, "some are said, some not", yes > 3 && yes < edges.length - 3, true);
        // just a twentieth: 6 of 120; 7 7 7 6 6 6 has 36 of 720
        Check.due(39, "by hand", waysByHand(8, 7, 5, 5, 5), 6);
        Check.due(39, "by hand", waysByHand(7, 7, 7, 6, 6, 6), 36);
        Check.due(39, "by hand", waysByHand(3, 3, 2, 3, 2, 1, 2), 252);
    }

    private static void noSuchOnes() {
        for (int value : new int[] {MIN, -1, 99, MAX}) {
            Check.due(22, "none at all", new IceLogs().span(value, value, value, value, value, value), -1);
            Check.due(23, "none at all", new IceLogs().fitting(value, value, value, value), -1);
            Check.due(24, "none at all", new IceLogs().odds(value, value, value, value, value, value), -1);
            Check.due(25, "none at all", new IceLogs().keepers(value, value, value, value), -1000);
            Check.due(26, "none at all", new IceLogs().leanOf(value, value), -100);
            Check.due(27, "none at all", new IceLogs().trend(value, value, value, value), -1);
            Check.due(28, "none at all", new IceLogs().nowhere(value, value), -1);
            Check.due(29, "none at all", new IceLogs().next(value, value, value, value), -1);
            Check.due(32, "none at all", new IceLogs().surely(value, value, value, value, value, value), -1);
            Check.due(35, "none at all", new IceLogs().joined(value, value), -100);
            Check.due(39, "none at all", new IceLogs().say(value, value, value, value), -1);
        }
    }
}
