import java.util.ArrayList;
import java.util.List;

/** The boundaries that the document names for FACTS, TRACKS, TAILS, SLOTS: III, parts of V, promises 10 to 20, 36 to 38, 40, 41. */
public final class BoundsOfFactsTest {
    private static final int MIN = Bounds.MIN;
    private static final int MAX = Bounds.MAX;
    private static final int FAST = Bounds.FAST;
    private static final int SIGHTED = Bounds.SIGHTED;
    private static final int CLEAR = Bounds.CLEAR;
    private static final int SILENT = Bounds.SILENT;

    public static void main(String[] args) {
        noons();
        howFar();
        pictures();
        tails();
        voids();
        factsAre120AtMost();
        whatAFactHas();
        knownByN();
        noneThenForThoseWhoKnow();
        tracksByDays();
        ofOneDayTheLastTold();
        noSuchTrack();
        reach();
        slipped();
        copied();
        slipsOfAllTracks();
        putRight();
        noSuchState();
        tailsOfAYear();
        stock();
        leastStock();
        noSuchStock();
        slots();
        the512thCall();
        Check.finish();
    }

    private static int noon(IceLogs logs, int... a) {
        return logs.noon(a[0], a[1], a[2], a[3], a[4], a[5], a[6]);
    }

    private static int silent(IceLogs logs, int day, int x, int y) {
        return logs.noon(2, 7, day, x, y, SILENT, 0);
    }

    // ---- 'A NOON: a SHIP (0 .. 5), YEAR, DAY (0 .. 111; its week: DAY / 7), x, y, a KIND (..), how far (SIGHTED: 1 .. 5, else 0)', promise 10

    private static void noons() {
        Bounds.ranges(10, "NONE, and nothing happens: no such ones", Bounds::some, BoundsOfFactsTest::noon, -1,
            new int[] {0, 5, 50, 3, 6, FAST, 0}, Bounds.to(0, 5), Bounds.to(0, 39), Bounds.to(0, 111), Bounds.to(0, 9), Bounds.to(0, 11),
            Bounds.to(0, 4), Bounds.to(0, 0));
        IceLogs logs = new IceLogs();
        for (int i = 0; i < 120; i++) {
            Check.due(10, "its number", logs.noon(i % 6, i % 40, i % 112, i % 10, i % 12, 4, 0), i);
        }
        for (int i = 0; i < 120; i++) {
            int[] due = {0, i % 40, i % 112, i % 10, i % 12, 4, 0, i % 6};
            for (int what = 0; what < 8; what++) {
                Check.due(14, "fact(" + i + ", " + what + ")", logs.fact(i, what), due[what]);
            }
        }
        // its week: DAY / 7
        for (int week = 0; week < 16; week++) {
            IceLogs two = new IceLogs();
            two.noon(0, 3, 7 * week, 3, 6, FAST, 0);
            two.noon(1, 3, 7 * week + 6, 3, 6, FAST, 0);
            for (int other = Math.max(0, week - 1); other <= Math.min(15, week + 1); other++) {
                Check.due(22, "SPANS of week " + other, two.span(3, other, 3, 0, 2, 3), other == week ? 2 : 0);
            }
        }
        // on LAND it is told, too
        Check.due(10, "a NOON on LAND", Check.with("land 3 6;").noon(0, 0, 0, 3, 6, FAST, 0), 0);
    }

    private static void howFar() {
        Bounds.ranges(10, "how far (SIGHTED: 1 .. 5)", Bounds::some, BoundsOfFactsTest::noon, -1, new int[] {0, 5, 50, 3, 6, SIGHTED, 1},
            null, null, null, null, null, null, Bounds.to(1, 5));
        for (int kind : new int[] {FAST, Bounds.BESET, CLEAR, SILENT}) {
            Bounds.ranges(10, "how far (else 0)", Bounds::some, BoundsOfFactsTest::noon, -1, new int[] {0, 5, 50, 3, 6, kind, 0},
                null, null, null, null, null, null, Bounds.to(0, 0));
        }
        // SIGHT of the text does not matter
        Check.due(10, "how far above SIGHT", Check.with("sight 0;").noon(0, 0, 0, 3, 6, SIGHTED, 5), 0);
    }

    // ---- 'A PICTURE (by the eye above): YEAR, week, x, a row (0 .. 12). TAILS: a YEAR, how many.', promises 11 and 12

    private static void pictures() {
        Bounds.ranges(11, "NONE likewise", Bounds::some, (l, a) -> l.picture(a[0], a[1], a[2], a[3]), -1, new int[] {5, 3, 3, 6},
            Bounds.to(0, 39), Bounds.to(0, 15), Bounds.to(0, 9), Bounds.to(0, 12));
        Check.due(11, "its number", Bounds.some().picture(0, 0, 0, 0), 7);
    }

    private static void tails() {
        Bounds.ranges(12, "TAILS (0 .. 999), NONE likewise", Bounds::some, (l, a) -> l.tails(a[0], a[1]), -1, new int[] {5, 6},
            Bounds.to(0, 39), Bounds.to(0, 999));
        Check.due(12, "its number", Bounds.some().tails(0, 0), 7);
    }

    // ---- 'VOID: of another FACT (no VOID)', promise 13

    private static void voids() {
        Bounds.ranges(13, "NONE likewise", Bounds::some, (l, a) -> l.annul(a[0]), -1, new int[] {0}, Bounds.to(0, 6));
        Bounds.refused(13, "a VOID", Bounds::some, (l, a) -> l.annul(a[0]), -1, 5);
        Bounds.refused(13, "NONE: no FACTS", IceLogs::new, (l, a) -> l.annul(a[0]), -1, 0);
        for (int fact = 0; fact < 7; fact++) {
            IceLogs logs = Bounds.some();
            Check.due(13, "its number, or NONE: " + fact, logs.annul(fact), fact == 5 ? -1 : 7);
            Check.due(14, "a VOID's FACT", logs.fact(7, 1), fact == 5 ? -1 : fact);
        }
        IceLogs own = Bounds.some();
        Check.due(13, "not its own number", own.annul(7), -1);
        Check.due(13, "a VOID of the last", own.annul(6), 7);
        Check.due(13, "the VOID itself", own.annul(7), -1);
    }

    // ---- 'FACTS, 120 at most, numbered from 0 on'

    private static IceLogs with119() {
        IceLogs logs = Bounds.some();
        for (int i = logs.count(3); i < 119; i++) {
            logs.tails(6, i);
        }
        return logs;
    }

    private static void factsAre120AtMost() {
        Check.due(10, "the 120th", with119().noon(0, 5, 50, 3, 6, FAST, 0), 119);
        Check.due(11, "the 120th", with119().picture(5, 3, 3, 6), 119);
        Check.due(12, "the 120th", with119().tails(5, 6), 119);
        Check.due(13, "the 120th", with119().annul(0), 119);
        Check.due(13, "the 120th of the 119th", with119().annul(118), 119);
        Bounds.refused(10, "NONE: 120 FACTS are there", Bounds::full, BoundsOfFactsTest::noon, -1, 0, 5, 50, 3, 6, FAST, 0);
        Bounds.refused(11, "NONE: 120 FACTS are there", Bounds::full, (l, a) -> l.picture(a[0], a[1], a[2], a[3]), -1, 5, 3, 3, 6);
        Bounds.refused(12, "NONE: 120 FACTS are there", Bounds::full, (l, a) -> l.tails(a[0], a[1]), -1, 5, 6);
        Bounds.refused(13, "NONE: 120 FACTS are there", Bounds::full, (l, a) -> l.annul(a[0]), -1, 0);
        Bounds.refused(13, "NONE: 120 FACTS are there", Bounds::full, (l, a) -> l.annul(a[0]), -1, 119);
        // what a SLOT holds makes room again
        IceLogs logs = Bounds.full();
        Check.due(41, "again", logs.again(1), true);
        Check.due(12, "numbered on from what is held", logs.tails(0, 0), 3);
    }

    // ---- Promise 14: '.. NONE for others, for what it has not.'

    private static void whatAFactHas() {
        IceLogs logs = Bounds.some();
        int[][] due = {{0, 5, 21, 3, 6, 0, 0, 0}, {0, 5, 21, 3, 7, 1, 2, 1}, {0, 5, 22, 3, 7, 2, 0, 1}, {1, 5, 3, 3, 6, -1, -1, -1},
            {2, 5, -1, -1, 40, -1, -1, -1}, {3, 2, -1, -1, -1, -1, -1, -1}, {0, 39, 111, 9, 11, 4, 0, 5}, {-1, -1, -1, -1, -1, -1, -1, -1}};
        for (int fact = 0; fact < due.length; fact++) {
            for (int what = 0; what < 8; what++) {
                Check.due(14, "fact(" + fact + ", " + what + ")", logs.fact(fact, what), due[fact][what]);
            }
        }
        Bounds.ranges(14, "NONE for others", Bounds::some, (l, a) -> l.fact(a[0], a[1]), -1, new int[] {0, 0}, Bounds.to(0, 6), Bounds.to(0, 7));
        Check.due(14, "the 120th", Bounds.full().fact(119, 4), 119);
        Check.due(14, "a 121st", Bounds.full().fact(120, 4), -1);
        // eight times these wraps to numbers that are there
        for (int fact : new int[] {MIN, MIN + 1, MAX, 1 << 29, (1 << 29) + 1, -(1 << 29)}) {
            Check.due(14, "none", logs.fact(fact, 0), -1);
            Check.due(14, "none", logs.fact(0, fact), -1);
        }
        // a later text with another MOVE, LAND changes no FACT; a VOID neither
        logs.annul(0);
        Check.due(14, "an annulled one", logs.fact(0, 4), 6);
    }

    // ---- 'KNOWN by n: the first n of them'

    private static void knownByN() {
        IceLogs logs = Bounds.some();
        Bounds.Call[] calls = {(l, a) -> l.track(1, 5, a[0]), (l, a) -> l.slips(a[0]), (l, a) -> l.span(3, 3, 5, 0, a[0], 3),
            (l, a) -> l.fitting(3, 5, 0, a[0]), (l, a) -> l.odds(3, 5, 3, 5, 0, a[0]), (l, a) -> l.trend(3, 3, a[0], 0),
            (l, a) -> l.nowhere(5, a[0]), (l, a) -> l.next(3, 5, 0, a[0]), (l, a) -> l.surely(6, 11, 3, 5, 0, a[0]),
            (l, a) -> l.caught(5, a[0]), (l, a) -> l.stock(50, 5, a[0]), (l, a) -> l.least(5, a[0]), (l, a) -> l.say(3, 3, 5, a[0])};
        int[] promises = {15, 18, 22, 23, 24, 27, 28, 29, 32, 36, 37, 38, 39};
        for (int i = 0; i < calls.length; i++) {
            Bounds.ranges(promises[i], "NONE: no such n", Bounds::some, calls[i], -1, new int[] {0}, Bounds.to(0, 7));
            Bounds.ranges(promises[i], "NONE: no such n", Bounds::full, calls[i], -1, new int[] {0}, Bounds.to(0, 120));
            Bounds.ranges(promises[i], "NONE: no such n", IceLogs::new, calls[i], -1, new int[] {0}, Bounds.to(0, 0));
        }
        Bounds.ranges(25, "-1000: no such n", Bounds::some, (l, a) -> l.keepers(0, 1, a[0], 0), -1000, new int[] {0}, Bounds.to(0, 7));
        Bounds.ranges(26, "-100: no such n", Bounds::some, (l, a) -> l.leanOf(1, a[0]), -100, new int[] {0}, Bounds.to(0, 7));
        Bounds.ranges(35, "-100: no such n", Bounds::some, (l, a) -> l.joined(a[0], 0), -100, new int[] {0}, Bounds.to(0, 7));
        Bounds.ranges(16, "NONE: no such n", Bounds::some, (l, a) -> l.trackAt(0, 5, a[0], 0), -1, new int[] {1}, Bounds.to(1, 7));
        Bounds.ranges(17, "NONE: no such n", Bounds::some, (l, a) -> l.state(0, a[0]), -1, new int[] {1}, Bounds.to(1, 7));
        Bounds.ranges(19, "NONE: no such n", Bounds::some, (l, a) -> l.right(0, a[0]), -1, new int[] {1}, Bounds.to(1, 7));
        Bounds.ranges(20, "NONE: no such n", Bounds::some, (l, a) -> l.rightAt(0, a[0], 0), -1, new int[] {1}, Bounds.to(1, 7));
        // FACT 1 is KNOWN by 2, not by 1; its neighbour FACT 2 from 3 on, not from 6 on (VOID 5)
        int[] tracks = {0, 0, 1, 2, 2, 2, 1, 1};
        for (int n = 0; n < 8; n++) {
            Check.due(15, "track as KNOWN by " + n, logs.track(1, 5, n), tracks[n]);
            Check.due(36, "TAILS as KNOWN by " + n, logs.caught(5, n), n > 4 ? 40 : 0);
            Check.due(39, "a PICTURE as KNOWN by " + n, logs.say(3, 3, 5, n) / 32, n > 3 ? 1 : 0);
        }
        // asked by turns, each answers as by itself
        for (int i = 0; i < 40; i++) {
            int n = i * 5 % 8;
            Check.due(15, "by turns as KNOWN by " + n, logs.track(1, 5, n), tracks[n]);
        }
    }

    // ---- 'VOID: .. which is none then for those who KNOW the VOID'

    private static void noneThenForThoseWhoKnow() {
        IceLogs logs = Check.with("sight 0;");
        logs.noon(0, 5, 21, 3, 6, FAST, 0);
        logs.picture(5, 3, 3, 8);
        logs.tails(5, 9);
        logs.annul(0);
        logs.annul(1);
        logs.annul(2);
        for (int n = 0; n <= 6; n++) {
            boolean noon = n >= 1 && n <= 3;
            Check.due(15, "its TRACK, n " + n, logs.track(0, 5, n), noon ? 1 : 0);
            Check.due(16, "its TRACK, n " + n, logs.trackAt(0, 5, n, 0), noon ? 0 : -1);
            Check.due(17, "its state, n " + n, logs.state(0, n), n == 0 ? -1 : noon ? 0 : 3);
            Check.due(19, "PUT RIGHT, n " + n, logs.right(0, n), noon ? 120 : -1);
            Check.due(22, "its SPAN, n " + n, logs.span(3, 3, 5, 0, n, 3), noon ? 1 : 0);
            Check.due(28, "NOWHERE, n " + n, logs.nowhere(5, n), noon ? 159 : 160);
            Check.due(27, "TREND, n " + n, logs.trend(3, 3, n, 0), noon ? 1 : 0);
            Check.due(35, "a PICTURE, n " + n, logs.joined(n, 2), n == 2 || n == 3 ? 1 : 0);
            Check.due(39, "a PICTURE, n " + n, logs.say(3, 3, 5, n) / 32, n >= 2 && n <= 4 ? 1 : 0);
            Check.due(36, "TAILS, n " + n, logs.caught(5, n), n >= 3 && n <= 5 ? 9 : 0);
            Check.due(38, "LEAST STOCK, n " + n, logs.least(5, n), n >= 3 && n <= 5 ? 9 : 0);
        }
        // a NOON told ahead of the same DAY is the last told again
        IceLogs same = new IceLogs();
        silent(same, 4, 1, 1);
        silent(same, 4, 2, 2);
        same.annul(1);
        int[] first = {-1, 0, 1, 0};
        for (int n = 0; n <= 3; n++) {
            Check.due(16, "of one DAY, n " + n, same.trackAt(2, 7, n, 0), first[n]);
        }
    }

    // ---- 'TRACK of a SHIP in a YEAR: its NOONS by DAYS, of one DAY the last told.'

    private static void tracksByDays() {
        IceLogs logs = new IceLogs();
        for (int i = 0; i < 112; i++) {
            silent(logs, i * 37 % 112, 3, 5);
        }
        Check.due(15, "every DAY", logs.track(2, 7, 112), 112);
        for (int i = 0; i < 112; i++) {
            Check.due(16, "DAY " + i, logs.fact(logs.trackAt(2, 7, 112, i), 2), i);
        }
        Check.due(16, "not so many", logs.trackAt(2, 7, 112, 112), -1);
        for (int i : new int[] {-1, 112, 120, MIN, MAX}) {
            Bounds.refused(16, "NONE: not so many", Bounds::some, (l, a) -> l.trackAt(1, 5, 7, a[0]), -1, i);
        }
        // SHIPS and YEARS beside: DAY 111 of the one and DAY 0 of the other are of two TRACKS
        IceLogs beside = new IceLogs();
        for (int ship = 0; ship < 6; ship++) {
            for (int year = 0; year < 40; year += 39) {
                beside.noon(ship, year, 111, ship, 0, SILENT, 0);
                beside.noon(ship, year, 0, ship, 11, SILENT, 0);
            }
        }
        for (int ship = 0; ship < 6; ship++) {
            for (int year = 0; year < 40; year += 13) {
                boolean there = year == 0 || year == 39;
                Check.due(15, "of SHIP " + ship + " in " + year, beside.track(ship, year, 24), there ? 2 : 0);
                Check.due(16, "the first", beside.trackAt(ship, year, 24, 0), there ? 4 * ship + (year == 39 ? 3 : 1) : -1);
                Check.due(16, "the second", beside.trackAt(ship, year, 24, 1), there ? 4 * ship + (year == 39 ? 2 : 0) : -1);
                Check.due(16, "no third", beside.trackAt(ship, year, 24, 2), -1);
            }
        }
        Check.due(18, "none is SLIPPED by another TRACK's", beside.slips(24), 0);
    }

    private static void ofOneDayTheLastTold() {
        IceLogs logs = new IceLogs();
        for (int i = 0; i < 120; i++) {
            silent(logs, 50, i % 10, i % 12);
            Check.due(15, "one DAY", logs.track(2, 7, i + 1), 1);
            Check.due(16, "the last told", logs.trackAt(2, 7, i + 1, 0), i);
            Check.due(17, "the last told", logs.state(i, i + 1), 0);
            if (i > 0) {
                Check.due(17, "one told ahead is in no TRACK", logs.state(i - 1, i + 1), 3);
                Check.due(19, "one told ahead is in no TRACK", logs.right(i - 1, i + 1), -1);
                Check.due(16, "as KNOWN ahead", logs.trackAt(2, 7, i, 0), i - 1);
            }
        }
        // a NOON of the same DAY of another SHIP, another YEAR is none of that DAY
        IceLogs three = new IceLogs();
        silent(three, 50, 1, 1);
        three.noon(3, 7, 50, 1, 1, SILENT, 0);
        three.noon(2, 8, 50, 1, 1, SILENT, 0);
        Check.due(17, "in its own TRACK", three.state(0, 3), 0);
        Check.due(16, "in its own TRACK", three.trackAt(2, 7, 3, 0), 0);
    }

    private static void noSuchTrack() {
        Bounds.ranges(15, "NONE: no such ones", Bounds::some, (l, a) -> l.track(a[0], a[1], 7), -1, new int[] {1, 5},
            Bounds.to(0, 5), Bounds.to(0, 39));
        for (int ship : new int[] {-1, 6, MIN, MAX}) {
            Bounds.refused(16, "NONE: no such ones", Bounds::some, (l, a) -> l.trackAt(a[0], 5, 7, 0), -1, ship);
        }
        for (int year : new int[] {-1, 40, MIN, MAX}) {
            Bounds.refused(16, "NONE: no such ones", Bounds::some, (l, a) -> l.trackAt(1, a[0], 7, 0), -1, year);
        }
        // SHIP 0 in YEAR 40 is not SHIP 1 in YEAR 0
        IceLogs logs = new IceLogs();
        logs.noon(1, 0, 0, 3, 5, SILENT, 0);
        Check.due(15, "no YEAR 40", logs.track(0, 40, 1), -1);
        Check.due(16, "no YEAR -1", logs.trackAt(2, -40, 1, 0), -1);
    }

    // ---- 'REACH of two of these: x and y are apart by no more than MOVE times the days between, together.'

    private static void reach() {
        for (int move = 1; move <= 3; move++) {
            for (int days = 1; days <= 8; days++) {
                for (int apart = 0; apart <= 20; apart++) {
                    int x = Math.min(9, apart);
                    int y = apart - x;
                    int want = apart <= move * days ? 0 : 1;
                    String call = "MOVE " + move + ", " + days + " days, " + apart + " apart";
                    Check.due(17, call, between(move, 0, 0, x, y, days), want);
                    Check.due(17, call + ", the other way", between(move, 9, 11, 9 - x, 11 - y, days), want);
                    Check.due(17, call + ", crosswise", between(move, 9, 0, 9 - x, y, days), want);
                }
            }
        }
        // by the greatest number of days all is in REACH
        IceLogs logs = new IceLogs();
        silent(logs, 0, 0, 0);
        silent(logs, 20, 9, 11);
        silent(logs, 40, 0, 0);
        Check.due(17, "20 days, 20 apart", logs.state(1, 3), 0);
        IceLogs less = new IceLogs();
        silent(less, 0, 0, 0);
        silent(less, 19, 9, 11);
        silent(less, 111, 0, 0);
        Check.due(17, "19 days, 20 apart", less.state(1, 3), 1);
    }

    /** One place, another so many days later, the first again: the state of the one between. */
    private static int between(int move, int x, int y, int otherX, int otherY, int days) {
        IceLogs logs = new IceLogs();
        Check.tell(logs, "move " + move + ";");
        silent(logs, 30, x, y);
        silent(logs, 30 + days, otherX, otherY);
        silent(logs, 30 + 2 * days, x, y);
        return logs.state(1, 3);
    }

    // ---- 'SLIPPED is one on LAND, or one with others ahead and behind in its TRACK that are in REACH of one another, out of REACH of one of them at least.'

    private static void slipped() {
        for (int apart = 0; apart <= 20; apart++) {
            // the one between is out of REACH of both
            IceLogs logs = new IceLogs();
            silent(logs, 10, 0, 0);
            silent(logs, 15, 9, 11);
            silent(logs, 20, Math.min(8, apart), Math.max(0, apart - 8) % 12);
            int far = Math.min(8, apart) + Math.max(0, apart - 8) % 12;
            boolean nearBehind = 9 - Math.min(8, apart) + 11 - Math.max(0, apart - 8) % 12 <= 5;
            Check.due(17, "those ahead and behind are " + far + " apart", logs.state(1, 3), far <= 10 && !nearBehind ? 1 : 0);
            Check.due(17, "the first has none ahead", logs.state(0, 3), 0);
            Check.due(17, "the last has none behind", logs.state(2, 3), 0);
        }
        // out of REACH of the one ahead alone, of the one behind alone, of none
        int[][] cases = {{5, 6, 7, 0}, {5, 7, 7, 1}, {5, 5, 7, 1}, {5, 8, 7, 1}, {5, 4, 7, 1}, {5, 6, 8, 0}, {5, 7, 8, 0}, {5, 4, 8, 0}, {5, 5, 6, 0},
            {5, 6, 5, 0}, {5, 7, 6, 1}, {5, 4, 6, 1}};
        for (int[] c : cases) {
            IceLogs logs = new IceLogs();
            silent(logs, 10, 3, c[0]);
            logs.noon(2, 7, 11, 3, c[1], CLEAR, 0);
            silent(logs, 12, 3, c[2]);
            Check.due(17, "y " + c[0] + ", " + c[1] + ", " + c[2], logs.state(1, 3), c[3]);
            Check.due(18, "slips", logs.slips(3), c[3]);
        }
        // one or two alone are not, wherever they are; on LAND each is
        IceLogs land = Check.with("land 3 5;land 9 11;");
        silent(land, 10, 3, 5);
        Check.due(17, "alone on LAND", land.state(0, 1), 1);
        silent(land, 11, 9, 11);
        Check.due(17, "the first of two on LAND", land.state(0, 2), 1);
        Check.due(17, "the last of two on LAND", land.state(1, 2), 1);
        silent(land, 12, 3, 4);
        Check.due(17, "beside LAND", land.state(2, 3), 0);
        Check.due(18, "two", land.slips(3), 2);
        // LAND cells at their first and last
        IceLogs corners = Check.with("land 0 0;land 9 11;");
        corners.noon(0, 0, 0, 0, 0, FAST, 0);
        corners.noon(1, 0, 0, 9, 11, FAST, 0);
        corners.noon(2, 0, 0, 0, 1, FAST, 0);
        Check.due(18, "on LAND 0, 0 and 9, 11", corners.slips(3), 2);
    }

    // ---- 'COPIED: the one ahead is of the DAY ahead and has its place, KIND and how far, and there is one behind it that is out of its REACH.'

    private static void copied() {
        for (int move = 1; move <= 3; move++) {
            for (int days = 1; days <= 5; days++) {
                for (int apart = 0; apart <= 20; apart++) {
                    IceLogs logs = new IceLogs();
                    Check.tell(logs, "move " + move + ";");
                    silent(logs, 10, 0, 0);
                    silent(logs, 11, 0, 0);
                    silent(logs, 11 + days, Math.min(9, apart), apart - Math.min(9, apart));
                    // out of its REACH, but in REACH of the one ahead: SLIPPED
                    int want = apart <= move * days ? 0 : apart <= move * (days + 1) ? 1 : 2;
                    Check.due(17, "MOVE " + move + ", " + days + " days, " + apart + " apart", logs.state(1, 3), want);
                    Check.due(17, "the one ahead", logs.state(0, 3), 0);
                }
            }
        }
        int[][] others = {{10, 3, 5, SIGHTED, 2, 2}, {9, 3, 5, SIGHTED, 2, 0}, {10, 2, 5, SIGHTED, 2, 0}, {10, 3, 4, SIGHTED, 2, 0},
            {10, 3, 6, SIGHTED, 2, 0}, {10, 4, 5, SIGHTED, 2, 0}, {10, 3, 5, SIGHTED, 1, 0}, {10, 3, 5, SIGHTED, 3, 0}, {10, 3, 5, FAST, 0, 0},
            {10, 3, 5, SILENT, 0, 0}};
        for (int[] o : others) {
            IceLogs logs = new IceLogs();
            logs.noon(2, 7, o[0], o[1], o[2], o[3], o[4]);
            logs.noon(2, 7, 11, 3, 5, SIGHTED, 2);
            Check.due(17, "there is none behind it", logs.state(1, 2), 0);
            silent(logs, 12, 9, 11);
            Check.due(17, "the one ahead: " + java.util.Arrays.toString(o), logs.state(1, 3), o[5]);
        }
        // DAY 111 of a YEAR is not ahead of DAY 0 of the next; of another SHIP's neither
        IceLogs years = new IceLogs();
        years.noon(2, 6, 111, 3, 5, SILENT, 0);
        years.noon(1, 7, 0, 3, 5, SILENT, 0);
        silent(years, 0, 3, 5);
        silent(years, 1, 9, 11);
        Check.due(17, "the first of its TRACK", years.state(2, 4), 0);
        // of three alike ones the last is one, then the one ahead is not: its own one behind is in REACH
        IceLogs three = new IceLogs();
        silent(three, 10, 3, 5);
        silent(three, 11, 3, 5);
        silent(three, 12, 3, 5);
        silent(three, 13, 9, 11);
        int[] states = {0, 0, 2, 0};
        for (int i = 0; i < 4; i++) {
            Check.due(17, "alike ones, the " + i + "th", three.state(i, 4), states[i]);
        }
        // SLIPPED ahead of COPIED: on LAND
        IceLogs land = Check.with("land 3 5;");
        silent(land, 10, 3, 5);
        silent(land, 11, 3, 5);
        silent(land, 12, 9, 11);
        Check.due(17, "2 COPIED (not SLIPPED)", land.state(1, 3), 1);
        Check.due(18, "each counts once", land.slips(3), 2);
    }

    // ---- Promise 18: 'How many are not GOOD in all TRACKS'

    private static void slipsOfAllTracks() {
        IceLogs all = Check.with("land 3 5;");
        for (int i = 0; i < 120; i++) {
            all.noon(i % 6, i / 6, 10, 3, 5, SILENT, 0);
        }
        Check.due(18, "none KNOWN", all.slips(0), 0);
        Check.due(18, "one", all.slips(1), 1);
        Check.due(18, "120", all.slips(120), 120);
        Check.tell(all, "");
        Check.due(18, "none without LAND", all.slips(120), 0);
        IceLogs told = Check.with("land 3 5;");
        silent(told, 10, 3, 5);
        silent(told, 10, 3, 5);
        Check.due(18, "one told ahead of the same DAY is in no TRACK", told.slips(2), 1);
        told.annul(1);
        Check.due(18, "the other one instead", told.slips(3), 1);
        told.annul(0);
        Check.due(18, "none", told.slips(4), 0);
        told.picture(7, 1, 3, 5);
        told.tails(7, 1);
        Check.due(18, "others are no NOONS", told.slips(6), 0);
    }

    // ---- 'PUT RIGHT: cells that are no LAND in REACH of the one ahead and of the one behind (those there are; of the days between).'

    private static void putRight() {
        String land = "";
        for (int i = 0; i < 30; i++) {
            land += "land " + i % 10 + " " + i / 10 * 5 + ";";
        }
        IceLogs alone = Check.with(land);
        silent(alone, 10, 3, 0);
        Check.due(19, "120 less LAND, without others", alone.right(0, 1), 90);
        Check.due(19, "120 without LAND", one().right(0, 1), 120);
        rightIs(alone, 0, 1, land, null, null, 10);
        int[][] places = {{0, 0}, {9, 11}, {9, 0}, {0, 11}, {4, 6}};
        for (String text : new String[] {"", "move 2;", "move 3;" + land}) {
            for (int[] ahead : places) {
                for (int[] behind : places) {
                    for (int day : new int[] {11, 14, 19}) {
                        IceLogs logs = Check.with(text);
                        silent(logs, 10, ahead[0], ahead[1]);
                        silent(logs, day, 8, 8);
                        silent(logs, 20, behind[0], behind[1]);
                        rightIs(logs, 1, 3, text, new int[] {10, ahead[0], ahead[1]}, new int[] {20, behind[0], behind[1]}, day);
                        rightIs(logs, 0, 3, text, null, new int[] {day, 8, 8}, 10);
                        rightIs(logs, 2, 3, text, new int[] {day, 8, 8}, null, 20);
                    }
                }
            }
        }
    }

    private static IceLogs one() {
        IceLogs logs = new IceLogs();
        silent(logs, 10, 3, 0);
        return logs;
    }

    private static void rightIs(IceLogs logs, int fact, int n, String text, int[] ahead, int[] behind, int day) {
        int move = text.startsWith("move") ? text.charAt(5) - '0' : 1;
        List<Integer> cells = new ArrayList<>();
        for (int x = 0; x < 10; x++) {
            for (int y = 0; y < 12; y++) {
                if (!text.contains("land " + x + " " + y + ";") && near(x, y, ahead, day, move) && near(x, y, behind, day, move)) {
                    cells.add(12 * x + y);
                }
            }
        }
        Check.due(19, "right", logs.right(fact, n), cells.size());
        Check.due(20, "NONE: not so many", logs.rightAt(fact, n, cells.size()), -1);
        Check.due(20, "NONE: not so many", logs.rightAt(fact, n, -1), -1);
        Check.due(20, "NONE: not so many", logs.rightAt(fact, n, MAX), -1);
        for (int i = 0; i < cells.size(); i++) {
            Check.due(20, "rightAt " + i, logs.rightAt(fact, n, i), cells.get(i));
        }
    }

    private static boolean near(int x, int y, int[] other, int day, int move) {
        return other == null || Math.abs(x - other[1]) + Math.abs(y - other[2]) <= move * Math.abs(day - other[0]);
    }

    // ---- Promises 17, 19, 20: 'NONE: no such FACT among the first n', 'it is in none, no such ones'

    private static void noSuchState() {
        int[] states = {0, 0, 3, 3, 3, 3, 0};
        IceLogs logs = Bounds.some();
        for (int fact = 0; fact < 7; fact++) {
            Check.due(17, "state of " + fact, logs.state(fact, 7), states[fact]);
            Check.due(17, "as KNOWN by it", logs.state(fact, fact + 1), fact >= 3 && fact <= 5 ? 3 : 0);
            Check.due(17, "as KNOWN ahead of it", logs.state(fact, fact), -1);
            boolean isIn = fact != 3 && fact != 4 && fact != 5;
            Check.due(19, "PUT RIGHT, as KNOWN by it", logs.right(fact, fact + 1) != -1, isIn);
            Check.due(19, "PUT RIGHT, as KNOWN ahead of it", logs.right(fact, fact), -1);
            Check.due(20, "PUT RIGHT, as KNOWN by it", logs.rightAt(fact, fact + 1, 0) != -1, isIn);
            Check.due(20, "PUT RIGHT, as KNOWN ahead of it", logs.rightAt(fact, fact, 0), -1);
        }
        for (int fact : new int[] {-1, 7, 8, 119, 120, MIN, MAX}) {
            Bounds.refused(17, "NONE: no such FACT", Bounds::some, (l, a) -> l.state(a[0], 7), -1, fact);
            Bounds.refused(19, "NONE: no such ones", Bounds::some, (l, a) -> l.right(a[0], 7), -1, fact);
            Bounds.refused(20, "NONE: likewise", Bounds::some, (l, a) -> l.rightAt(a[0], 7, 0), -1, fact);
        }
        Check.due(17, "the 120th", Bounds.full().state(119, 120), 3);
        Check.due(17, "none of none", new IceLogs().state(0, 0), -1);
        Check.due(20, "behind one that has many, one that has none", logs.right(0, 7) > 0 && logs.rightAt(3, 7, 0) == -1, true);
    }

    // ---- 'TAILS of a YEAR: the sum.'

    private static void tailsOfAYear() {
        IceLogs logs = new IceLogs();
        for (int i = 0; i < 120; i++) {
            logs.tails(39, 999);
            Check.due(36, "the sum", logs.caught(39, i + 1), 999 * (i + 1));
        }
        Check.due(36, "none in another YEAR", logs.caught(38, 120), 0);
        Check.due(36, "none KNOWN", logs.caught(39, 0), 0);
        Bounds.ranges(36, "NONE: no such ones", Bounds::some, (l, a) -> l.caught(a[0], 7), -1, new int[] {5}, Bounds.to(0, 39));
        Check.due(36, "TAILS of 0", some(0, 0).caught(0, 1), 0);
    }

    private static IceLogs some(int... yearAndMany) {
        return told("", yearAndMany);
    }

    private static IceLogs told(String text, int... yearAndMany) {
        IceLogs logs = Check.with(text);
        for (int i = 0; i < yearAndMany.length; i += 2) {
            logs.tails(yearAndMany[i], yearAndMany[i + 1]);
        }
        return logs;
    }

    // ---- 'STOCK from S (0 .. 999): YEAR by YEAR TAILS are taken away; then BIRTHS in a hundred come, rounded down; 999 at most.'

    private static void stock() {
        int[][] oneYear = {{0, 0, 0, 0}, {50, 49, 0, -2}, {50, 50, 0, 0}, {50, 51, 0, 1}, {999, 998, 0, -2}, {999, 999, 0, 0}, {0, 999, 0, 999},
            {0, 999, 100, 999}, {0, 499, 100, 998}, {0, 500, 100, 999}, {0, 99, 1, 99}, {0, 100, 1, 101}, {0, 199, 1, 200}, {0, 200, 1, 202},
            {0, 1, 99, 1}, {0, 1, 100, 2}, {0, 2, 50, 3}, {0, 3, 50, 4}, {0, 0, 100, 0}, {1, 990, 1, 998}, {0, 990, 1, 999}, {9, 1, 7, -2},
            {10, 110, 10, 110}, {10, 109, 10, 108}};
        for (int[] o : oneYear) {
            IceLogs logs = told("births " + o[2] + ";", 0, o[0]);
            Check.due(37, "TAILS " + o[0] + ", S " + o[1] + ", BIRTHS " + o[2], logs.stock(o[1], 0, 1), o[3]);
        }
        // YEAR by YEAR, up to the YEAR and with it
        IceLogs years = told("births 100;", 0, 1, 1, 2, 39, 5);
        Check.due(37, "YEAR 0", years.stock(2, 0, 3), 2);
        Check.due(37, "YEAR 1: all of them", years.stock(2, 1, 3), 0);
        Check.due(37, "YEAR 38: none come of none", years.stock(2, 38, 3), 0);
        Check.due(37, "YEAR 39 takes more than there are", years.stock(2, 39, 3), -2);
        Check.due(37, "YEAR 1 takes more than there are", years.stock(1, 1, 3), -2);
        Check.due(37, "then it is not BORNE in a later one either", years.stock(1, 2, 3), -2);
        Check.due(37, "YEAR 0 does not", years.stock(1, 0, 3), 0);
        Check.due(37, "999 at most, 5 of them taken, 999 again", years.stock(3, 39, 3), 999);
        Check.due(37, "as KNOWN by two", years.stock(2, 39, 2), 0);
        // those that come in a YEAR are not there to be taken in it
        Check.due(37, "BIRTHS come then", told("births 100;", 0, 11).stock(10, 0, 1), -2);
        Check.due(37, "all TAILS of a YEAR", told("", 0, 5, 0, 6).stock(10, 0, 2), -2);
        Check.due(37, "all TAILS of a YEAR", told("", 0, 5, 0, 6).stock(11, 0, 2), 0);
        // more than 32 bits could ever hold is far off: 120 times 999
        IceLogs all = new IceLogs();
        for (int i = 0; i < 120; i++) {
            all.tails(0, 999);
        }
        Check.due(37, "120 times 999", all.stock(999, 0, 120), -2);
        Check.due(38, "120 times 999", all.least(0, 120), -2);
    }

    // ---- 'It is BORNE if no YEAR takes more than there are. LEAST STOCK: the least S that is BORNE up to a YEAR.'

    private static void leastStock() {
        for (int many : new int[] {0, 1, 2, 498, 499, 500, 501, 997, 998, 999}) {
            Check.due(38, "TAILS " + many, some(0, many).least(0, 1), many);
            Check.due(38, "TAILS " + many + " in YEAR 39", some(39, many).least(39, 1), many);
            Check.due(38, "not yet in YEAR 38", some(39, many).least(38, 1), 0);
        }
        Check.due(38, "999 and 1: there is none", some(0, 999, 0, 1).least(0, 2), -2);
        Check.due(38, "999 in one YEAR, 1 in the next: there is none", some(0, 999, 1, 1).least(1, 2), -2);
        Check.due(38, "up to the YEAR ahead there is one", some(0, 999, 1, 1).least(0, 2), 999);
        Check.due(38, "998 and 1", some(0, 998, 1, 1).least(1, 2), 999);
        Check.due(38, "with BIRTHS", told("births 100;", 0, 998, 1, 2).least(1, 2), 999);
        Check.due(38, "with BIRTHS, none", told("births 100;", 0, 998, 1, 3).least(1, 2), -2);
        Check.due(38, "no TAILS", new IceLogs().least(39, 0), 0);
        for (int births : new int[] {0, 1, 7, 33, 50, 99, 100}) {
            IceLogs logs = told("births " + births + ";", 0, 3, 3, 40, 4, 7, 9, 100, 20, 333);
            for (int year : new int[] {0, 2, 3, 4, 8, 9, 19, 20, 39}) {
                int least = logs.least(year, 5);
                Check.due(38, "it is BORNE", logs.stock(least, year, 5) >= 0, true);
                Check.due(38, "one less is not", least == 0 || logs.stock(least - 1, year, 5) == -2, true);
            }
        }
    }

    private static void noSuchStock() {
        Bounds.ranges(37, "STOCK from S (0 .. 999), NONE: no such ones", Bounds::some, (l, a) -> l.stock(a[0], a[1], 7), -1,
            new int[] {50, 5}, Bounds.to(0, 999), Bounds.to(0, 39));
        Bounds.ranges(38, "NONE: no such ones", Bounds::some, (l, a) -> l.least(a[0], 7), -1, new int[] {5}, Bounds.to(0, 39));
    }

    // ---- 'An object is used for at most 512 calls after it has been made'

    private static void the512thCall() {
        IceLogs logs = new IceLogs();
        int calls = 0;
        for (int i = 0; i < 120; i++) {
            calls++;
            Check.due(10, "call " + calls, logs.noon(i % 6, i / 40, i % 40, 3, 6, SILENT, 0), i);
        }
        while (calls < 509) {
            calls++;
            Check.due(18, "call " + calls, logs.slips(calls % 121), 0);
        }
        Check.due(12, "call 510", logs.tails(0, 0), -1);
        Check.due(42, "call 511", logs.count(3), 120);
        Check.due(15, "call 512", logs.track(5, 2, 120), 7);
    }

    // ---- Promises 40 and 41

    private static int again(IceLogs logs, int... a) {
        return logs.again(a[0]) ? 1 : 0;
    }

    private static void slots() {
        for (int slot : new int[] {-1, 3, 4, MIN, MAX}) {
            Bounds.refused(40, "false: no such one", Bounds::some, (l, a) -> l.hold(a[0]) ? 1 : 0, 0, slot);
            Bounds.refused(41, "false, and nothing happens: no such one", Bounds::some, BoundsOfFactsTest::again, 0, slot);
        }
        Bounds.refused(41, "false, and nothing happens: nothing is held", Bounds::some, BoundsOfFactsTest::again, 0, 0);
        for (int slot = 0; slot < 3; slot++) {
            Bounds.refused(41, "false, and nothing happens: nothing is held", BoundsOfFactsTest::one, BoundsOfFactsTest::again, 0, slot);
            IceLogs logs = new IceLogs();
            Check.due(40, "no FACTS are held, too", logs.hold(slot), true);
            Check.due(42, "one SLOT holds", logs.count(8), 1);
            silent(logs, 1, 1, 1);
            logs.lean(2, 1);
            for (int other = 0; other < 3; other++) {
                Check.due(41, "SLOT " + other, logs.again(other), other == slot);
            }
            Check.due(41, "no FACTS go on", logs.count(3), 0);
            logs.noon(2, 7, 1, 1, 6, FAST, 0);
            Check.due(41, "no LEANS go on", logs.span(1, 0, 7, 0, 1, 0), 6);
        }
        // all of 120 FACTS, all of six LEANS
        IceLogs full = Bounds.full();
        for (int ship = 0; ship < 6; ship++) {
            full.lean(ship, ship % 5 - 2);
        }
        full.hold(0);
        for (int ship = 0; ship < 6; ship++) {
            full.lean(ship, 0);
        }
        full.again(2);
        Check.due(41, "FACTS of another", full.count(3), 6);
        for (int i = 6; i < 120; i++) {
            full.picture(i % 40, 15, 9, 12);
        }
        full.again(0);
        Check.due(41, "120 FACTS", full.count(3), 120);
        for (int i = 7; i < 120; i++) {
            Check.due(41, "FACT " + i, full.fact(i, 4), i);
        }
        Check.due(12, "no room", full.tails(0, 0), -1);
        for (int ship = 0; ship < 6; ship++) {
            IceLogs leans = new IceLogs();
            leans.lean(ship, ship % 5 - 2);
            leans.hold(0);
            leans.lean(ship, 0);
            leans.noon(ship, 7, 1, 1, 6, FAST, 0);
            leans.hold(1);
            Check.due(22, "the LEAN told last", leans.span(1, 0, 7, 0, 1, 0), 6);
            leans.again(0);
            leans.noon(ship, 7, 1, 1, 6, FAST, 0);
            Check.due(41, "the LEAN that was held", leans.span(1, 0, 7, 0, 1, 0), 6 + ship % 5 - 2);
            leans.again(1);
            Check.due(41, "the LEAN of the other SLOT", leans.span(1, 0, 7, 0, 1, 0), 6);
        }
        // the text and the tape do not go back
        IceLogs text = Bounds.some();
        Check.due(4, "move 3;", text.read(), 0);
        Check.feed(text, "edge=");
        Check.due(41, "again", text.again(1), true);
        Check.due(42, "MOVE", text.count(6), 3);
        Check.due(42, "the tape", text.count(4), 5);
        Check.due(42, "SLOTS", text.count(8), 2);
        // what a SLOT holds is not changed by what comes behind it
        IceLogs held = one();
        held.hold(0);
        held.annul(0);
        held.lean(2, 2);
        held.again(0);
        Check.due(41, "no VOID", held.track(2, 7, 1), 1);
        silent(held, 11, 3, 1);
        held.again(0);
        Check.due(41, "one FACT", held.count(3), 1);
        Check.due(17, "KNOWN anew", held.state(0, 1), 0);
        // as KNOWN by the same n, of other FACTS
        IceLogs known = new IceLogs();
        silent(known, 10, 1, 1);
        known.hold(0);
        known.hold(1);
        silent(known, 11, 1, 1);
        known.hold(2);
        Check.due(15, "two", known.track(2, 7, 2), 2);
        known.again(0);
        known.tails(3, 5);
        Check.due(15, "one and TAILS", known.track(2, 7, 2), 1);
        Check.due(36, "one and TAILS", known.caught(3, 2), 5);
        known.again(2);
        Check.due(15, "two again", known.track(2, 7, 2), 2);
        Check.due(36, "no TAILS", known.caught(3, 2), 0);
    }
}
