/** Promises 10 to 20, 36 to 38, 40 and 41: FACTS, TRACKS, noons put right, tails, SLOTS. */
public final class FactTest {
    private static final int MIN = Integer.MIN_VALUE;
    private static final int MAX = Integer.MAX_VALUE;

    public static void main(String[] args) {
        noons();
        picturesTailsVoids();
        room();
        tracks();
        tracksAsKnown();
        slipped();
        copied();
        landAndMove();
        voids();
        slips();
        putRight();
        tails();
        stocks();
        slots();
        Check.finish();
    }

    private static void factIs(int promise, IceLogs logs, int fact, int... want) {
        for (int what = 0; what < 8; what++) {
            Check.due(promise, "fact(" + fact + ", " + what + ")", logs.fact(fact, what), want[what]);
        }
    }

    private static void noons() {
        IceLogs logs = new IceLogs();
        Check.due(10, "FAST", logs.noon(0, 0, 0, 0, 0, 0, 0), 0);
        Check.due(10, "SIGHTED", logs.noon(5, 39, 111, 9, 11, 1, 5), 1);
        Check.due(10, "SIGHTED near", logs.noon(1, 2, 3, 4, 5, 1, 1), 2);
        Check.due(10, "BESET", logs.noon(1, 2, 3, 4, 5, 2, 0), 3);
        Check.due(10, "CLEAR", logs.noon(1, 2, 3, 4, 5, 3, 0), 4);
        Check.due(10, "SILENT", logs.noon(1, 2, 3, 4, 5, 4, 0), 5);
        factIs(10, logs, 0, 0, 0, 0, 0, 0, 0, 0, 0);
        factIs(10, logs, 1, 0, 39, 111, 9, 11, 1, 5, 5);
        factIs(10, logs, 2, 0, 2, 3, 4, 5, 1, 1, 1);
        factIs(10, logs, 3, 0, 2, 3, 4, 5, 2, 0, 1);
        int[][] wrong = {{-1, 0, 0, 0, 0, 0, 0}, {6, 0, 0, 0, 0, 0, 0}, {0, -1, 0, 0, 0, 0, 0}, {0, 40, 0, 0, 0, 0, 0},
            {0, 0, -1, 0, 0, 0, 0}, {0, 0, 112, 0, 0, 0, 0}, {0, 0, 0, -1, 0, 0, 0}, {0, 0, 0, 10, 0, 0, 0}, {0, 0, 0, 0, -1, 0, 0},
            {0, 0, 0, 0, 12, 0, 0}, {0, 0, 0, 0, 0, -1, 0}, {0, 0, 0, 0, 0, 5, 0}, {0, 0, 0, 0, 0, 0, 1}, {0, 0, 0, 0, 0, 0, -1},
            {0, 0, 0, 0, 0, 1, 0}, {0, 0, 0, 0, 0, 1, 6}, {0, 0, 0, 0, 0, 1, -1}, {0, 0, 0, 0, 0, 2, 1}, {0, 0, 0, 0, 0, 3, 2},
            {0, 0, 0, 0, 0, 4, 3}, {MIN, 0, MAX, 0, 0, 0, 0}};
        for (int[] w : wrong) {
            Check.due(10, "no such noon", logs.noon(w[0], w[1], w[2], w[3], w[4], w[5], w[6]), -1);
            Check.due(10, "nothing happened", logs.count(3), 6);
        }
    }

    private static void picturesTailsVoids() {
        IceLogs logs = new IceLogs();
        Check.due(11, "picture", logs.picture(39, 15, 9, 12), 0);
        Check.due(12, "tails", logs.tails(39, 999), 1);
        Check.due(12, "no tails", logs.tails(0, 0), 2);
        Check.due(13, "annul", logs.annul(1), 3);
        factIs(14, logs, 0, 1, 39, 15, 9, 12, -1, -1, -1);
        factIs(14, logs, 1, 2, 39, -1, -1, 999, -1, -1, -1);
        factIs(14, logs, 2, 2, 0, -1, -1, 0, -1, -1, -1);
        factIs(14, logs, 3, 3, 1, -1, -1, -1, -1, -1, -1);
        factIs(14, logs, 4, -1, -1, -1, -1, -1, -1, -1, -1);
        factIs(14, logs, -1, -1, -1, -1, -1, -1, -1, -1, -1);
        Check.due(14, "no such what", logs.fact(0, -1), -1);
        Check.due(14, "no such what", logs.fact(0, 8), -1);
        Check.due(14, "none at all", logs.fact(MAX, MIN), -1);
        int[][] wrong = {{-1, 0, 0, 0}, {40, 0, 0, 0}, {0, -1, 0, 0}, {0, 16, 0, 0}, {0, 0, -1, 0}, {0, 0, 10, 0}, {0, 0, 0, -1},
            {0, 0, 0, 13}};
        for (int[] w : wrong) {
            Check.due(11, "no such picture", logs.picture(w[0], w[1], w[2], w[3]), -1);
        }
        Check.due(12, "no such tails", logs.tails(-1, 0), -1);
        Check.due(12, "no such tails", logs.tails(40, 0), -1);
        Check.due(12, "no such tails", logs.tails(0, -1), -1);
        Check.due(12, "no such tails", logs.tails(0, 1000), -1);
        Check.due(13, "annul of a VOID", logs.annul(3), -1);
        Check.due(13, "annul of none", logs.annul(4), -1);
        Check.due(13, "annul of none", logs.annul(-1), -1);
        Check.due(13, "nothing happened", logs.count(3), 4);
        Check.due(13, "annul of a PICTURE", logs.annul(0), 4);
    }

    private static void room() {
        IceLogs logs = new IceLogs();
        for (int i = 0; i < 120; i++) {
            Check.due(12, "tails", logs.tails(i % 40, i), i);
        }
        Check.due(10, "no room", logs.noon(0, 0, 0, 0, 0, 0, 0), -1);
        Check.due(11, "no room", logs.picture(0, 0, 0, 0), -1);
        Check.due(12, "no room", logs.tails(0, 0), -1);
        Check.due(13, "no room", logs.annul(0), -1);
        Check.due(12, "nothing happened", logs.count(3), 120);
        Check.due(14, "the last", logs.fact(119, 4), 119);
        Check.due(36, "as KNOWN by all", logs.caught(0, 120), 0 + 40 + 80);
        Check.due(36, "no such n", logs.caught(0, 121), -1);
    }

    private static int silent(IceLogs logs, int day, int x, int y) {
        return logs.noon(2, 7, day, x, y, 4, 0);
    }

    private static void tracks() {
        IceLogs logs = new IceLogs();
        silent(logs, 9, 3, 8);
        silent(logs, 2, 3, 8);
        logs.noon(3, 7, 5, 3, 8, 4, 0);
        logs.noon(2, 8, 6, 3, 8, 4, 0);
        silent(logs, 111, 3, 8);
        silent(logs, 0, 3, 8);
        logs.picture(7, 0, 3, 8);
        silent(logs, 5, 3, 8);
        int[] order = {5, 1, 7, 0, 4};
        Check.due(15, "track", logs.track(2, 7, 8), 5);
        for (int i = 0; i < order.length; i++) {
            Check.due(16, "trackAt " + i, logs.trackAt(2, 7, 8, i), order[i]);
        }
        Check.due(16, "not so many", logs.trackAt(2, 7, 8, 5), -1);
        Check.due(16, "not so many", logs.trackAt(2, 7, 8, -1), -1);
        Check.due(16, "not so many", logs.trackAt(2, 7, 8, MAX), -1);
        Check.due(15, "another SHIP", logs.track(3, 7, 8), 1);
        Check.due(16, "another SHIP", logs.trackAt(3, 7, 8, 0), 2);
        Check.due(15, "another YEAR", logs.track(2, 8, 8), 1);
        Check.due(16, "another YEAR", logs.trackAt(2, 8, 8, 0), 3);
        Check.due(15, "none", logs.track(2, 9, 8), 0);
        Check.due(16, "none", logs.trackAt(2, 9, 8, 0), -1);
        Check.due(15, "KNOWN by none", logs.track(2, 7, 0), 0);
        int[][] wrong = {{-1, 0, 0}, {6, 0, 0}, {0, -1, 0}, {0, 40, 0}, {0, 0, -1}, {0, 0, 9}, {MIN, MIN, MIN}};
        for (int[] w : wrong) {
            Check.due(15, "no such", logs.track(w[0], w[1], w[2]), -1);
            Check.due(16, "no such", logs.trackAt(w[0], w[1], w[2], 0), -1);
        }
        Check.due(16, "no such n", logs.trackAt(2, 7, 9, 0), -1);
        Check.due(16, "no such n", logs.trackAt(2, 7, -1, 0), -1);
    }

    private static void tracksAsKnown() {
        IceLogs logs = new IceLogs();
        silent(logs, 4, 3, 8);
        silent(logs, 4, 5, 8);
        silent(logs, 3, 3, 8);
        logs.annul(1);
        logs.annul(0);
        Check.due(15, "the last told of a DAY", logs.track(2, 7, 2), 1);
        Check.due(16, "one is KNOWN", logs.trackAt(2, 7, 1, 0), 0);
        Check.due(16, "two are KNOWN", logs.trackAt(2, 7, 2, 0), 1);
        Check.due(16, "three are KNOWN", logs.trackAt(2, 7, 3, 0), 2);
        Check.due(16, "three are KNOWN", logs.trackAt(2, 7, 3, 1), 1);
        Check.due(16, "the VOID is KNOWN", logs.trackAt(2, 7, 4, 1), 0);
        Check.due(15, "both VOIDS are KNOWN", logs.track(2, 7, 5), 1);
        Check.due(16, "both VOIDS are KNOWN", logs.trackAt(2, 7, 5, 0), 2);
        Check.due(17, "in no TRACK any more", logs.state(0, 3), 3);
        Check.due(17, "in it again", logs.state(0, 4), 0);
        Check.due(17, "in it no more", logs.state(0, 5), 3);
    }

    /** Three noons of days 1, day, 9: the state of the one between. */
    private static void between(int promise, String text, int[] ahead, int[] noon, int[] behind, int want) {
        IceLogs logs = Check.with(text);
        logs.noon(2, 7, ahead[0], ahead[1], ahead[2], ahead[3], ahead[4]);
        logs.noon(2, 7, behind[0], behind[1], behind[2], behind[3], behind[4]);
        logs.noon(2, 7, noon[0], noon[1], noon[2], noon[3], noon[4]);
        Check.due(promise, "state of the one between", logs.state(2, 3), want);
        Check.due(promise, "state of the one ahead", logs.state(0, 3), 0);
        Check.due(promise, "state of the one behind", logs.state(1, 3), 0);
        Check.due(18, "slips", logs.slips(3), want == 0 ? 0 : 1);
    }

    private static int[] at(int day, int x, int y) {
        return new int[] {day, x, y, 4, 0};
    }

    private static void slipped() {
        between(17, "", at(1, 3, 5), at(2, 3, 6), at(3, 3, 7), 0);
        between(17, "", at(1, 3, 5), at(2, 4, 6), at(3, 3, 5), 1);
        between(17, "", at(1, 3, 5), at(2, 3, 5), at(3, 3, 6), 0);
        // out of REACH of just one
        between(17, "", at(1, 3, 5), at(2, 3, 7), at(3, 3, 6), 1);
        between(17, "", at(1, 3, 6), at(2, 3, 7), at(3, 3, 5), 1);
        between(17, "", at(1, 3, 5), at(5, 9, 5), at(9, 4, 5), 1);
        // those ahead and behind are not in REACH of one another
        between(17, "", at(1, 3, 5), at(2, 9, 9), at(3, 3, 8), 0);
        between(17, "", at(1, 3, 5), at(2, 9, 9), at(3, 4, 7), 0);
        between(17, "", at(1, 3, 5), at(2, 9, 9), at(3, 4, 6), 1);
        // x and y together, by the days between, by MOVE
        between(17, "", at(1, 3, 5), at(4, 5, 6), at(9, 5, 6), 0);
        between(17, "", at(1, 3, 5), at(4, 5, 7), at(9, 5, 6), 1);
        between(17, "move 2;", at(1, 3, 5), at(4, 6, 8), at(9, 5, 6), 0);
        between(17, "move 2;", at(1, 3, 5), at(4, 6, 9), at(9, 5, 6), 1);
        IceLogs ends = new IceLogs();
        silent(ends, 1, 0, 0);
        silent(ends, 2, 9, 9);
        Check.due(17, "two alone", ends.state(0, 2), 0);
        Check.due(17, "two alone", ends.state(1, 2), 0);
        // another SHIP's, another YEAR's are neither ahead nor behind
        ends.noon(3, 7, 3, 0, 1, 4, 0);
        ends.noon(2, 8, 3, 0, 1, 4, 0);
        Check.due(17, "of other TRACKS", ends.state(1, 4), 0);
        ends.picture(0, 0, 0, 0);
        ends.tails(0, 0);
        ends.annul(5);
        Check.due(17, "a PICTURE", ends.state(4, 7), 3);
        Check.due(17, "TAILS", ends.state(5, 6), 3);
        Check.due(17, "a VOID", ends.state(6, 7), 3);
        Check.due(17, "not KNOWN", ends.state(6, 6), -1);
        Check.due(17, "none", ends.state(7, 7), -1);
        Check.due(17, "none", ends.state(-1, 7), -1);
        Check.due(17, "no such n", ends.state(0, 8), -1);
        Check.due(17, "no such n", ends.state(0, -1), -1);
        Check.due(17, "none of none", new IceLogs().state(0, 0), -1);
    }

    private static int[] seen(int day, int x, int y, int kind, int far) {
        return new int[] {day, x, y, kind, far};
    }

    private static void copied() {
        between(17, "", at(1, 3, 5), at(2, 3, 5), at(3, 3, 8), 2);
        between(17, "", seen(1, 3, 5, 1, 2), seen(2, 3, 5, 1, 2), at(3, 6, 5), 2);
        // the one behind in REACH; then it is not of the DAY ahead, has not its place, KIND, how far
        between(17, "", at(1, 3, 5), at(2, 3, 5), at(5, 3, 8), 0);
        between(17, "", at(1, 3, 5), at(3, 3, 5), at(4, 3, 9), 0);
        between(17, "", at(1, 3, 5), at(2, 4, 5), at(3, 3, 9), 0);
        between(17, "", at(1, 3, 5), at(2, 3, 4), at(3, 3, 9), 0);
        between(17, "", seen(1, 3, 5, 4, 0), seen(2, 3, 5, 3, 0), at(3, 3, 9), 0);
        between(17, "", seen(1, 3, 5, 1, 2), seen(2, 3, 5, 1, 3), at(3, 3, 9), 0);
        // SLIPPED comes first: the one behind is in REACH of the one ahead, two DAYS off
        between(17, "", at(1, 3, 5), at(2, 3, 5), at(3, 3, 7), 1);
        // none behind, none ahead
        IceLogs ends = new IceLogs();
        silent(ends, 1, 3, 5);
        silent(ends, 2, 3, 5);
        Check.due(17, "none behind", ends.state(1, 2), 0);
        silent(ends, 3, 3, 9);
        Check.due(17, "one behind", ends.state(1, 3), 2);
        Check.due(17, "none ahead", ends.state(0, 3), 0);
        Check.due(17, "as KNOWN", ends.state(1, 2), 0);
    }

    private static void landAndMove() {
        IceLogs logs = Check.with("land 3 5;");
        silent(logs, 1, 3, 5);
        Check.due(17, "alone on LAND", logs.state(0, 1), 1);
        Check.due(18, "alone on LAND", logs.slips(1), 1);
        silent(logs, 2, 3, 5);
        silent(logs, 3, 3, 9);
        Check.due(17, "on LAND and a copy", logs.state(1, 3), 1);
        Check.due(18, "both", logs.slips(3), 2);
        Check.tell(logs, "");
        Check.due(17, "no LAND any more", logs.state(0, 3), 0);
        Check.due(17, "a copy now", logs.state(1, 3), 2);
        Check.tell(logs, "move 2;");
        Check.due(17, "it could go two steps", logs.state(1, 3), 1);
        Check.tell(logs, "move 3;");
        Check.due(17, "it could go three steps", logs.state(1, 3), 1);
        Check.due(15, "FACTS stay", logs.track(2, 7, 3), 3);
    }

    private static void voids() {
        IceLogs logs = new IceLogs();
        silent(logs, 1, 3, 5);
        silent(logs, 2, 3, 9);
        silent(logs, 3, 3, 6);
        Check.due(17, "SLIPPED", logs.state(1, 3), 1);
        logs.annul(2);
        Check.due(17, "without the one behind", logs.state(1, 4), 0);
        Check.due(17, "who does not know it", logs.state(1, 3), 1);
        Check.due(17, "it itself", logs.state(2, 4), 3);
        Check.due(19, "it itself", logs.right(2, 4), -1);
        Check.due(14, "its number stays", logs.fact(2, 2), 3);
        Check.due(13, "annulled again", logs.annul(2), 4);
        Check.due(15, "two are left", logs.track(2, 7, 5), 2);
    }

    private static void slips() {
        IceLogs logs = new IceLogs();
        Check.due(18, "none", logs.slips(0), 0);
        for (int ship = 0; ship < 6; ship += 5) {
            for (int year = 0; year < 40; year += 39) {
                logs.noon(ship, year, 1, 3, 5, 0, 0);
                logs.noon(ship, year, 2, 3, year == 0 ? 9 : 5, 0, 0);
                logs.noon(ship, year, 3, 3, year == 0 ? 5 : 9, 0, 0);
            }
        }
        Check.due(18, "in all TRACKS", logs.slips(12), 4);
        Check.due(18, "as KNOWN", logs.slips(9), 3);
        Check.due(18, "as KNOWN", logs.slips(8), 2);
        Check.due(18, "no such n", logs.slips(13), -1);
        Check.due(18, "no such n", logs.slips(-1), -1);
    }

    private static void putRight() {
        IceLogs logs = Check.with("land 4 6;land 0 0;");
        silent(logs, 1, 4, 5);
        silent(logs, 2, 9, 11);
        silent(logs, 5, 4, 7);
        // near 4, 5 by one, near 4, 7 by three; 4, 6 is LAND
        Check.due(19, "cells", logs.right(1, 3), 4);
        int[] cells = {36 + 5, 48 + 4, 48 + 5, 60 + 5};
        for (int i = 0; i < cells.length; i++) {
            Check.due(20, "cell " + i, logs.rightAt(1, 3, i), cells[i]);
        }
        Check.due(20, "not so many", logs.rightAt(1, 3, 4), -1);
        Check.due(20, "not so many", logs.rightAt(1, 3, -1), -1);
        // its own place does not matter, the days between do: the first has one behind alone
        Check.due(19, "by the one behind", logs.right(0, 3), 3);
        Check.due(20, "by the one behind", logs.rightAt(0, 3, 0), 96 + 11);
        Check.due(20, "by the one behind", logs.rightAt(0, 3, 1), 108 + 10);
        Check.due(20, "by the one behind", logs.rightAt(0, 3, 2), 108 + 11);
        Check.due(19, "by the one ahead", logs.right(2, 3), 10);
        Check.due(19, "without others", logs.right(0, 1), 118);
        Check.due(20, "the first without others", logs.rightAt(0, 1, 0), 1);
        Check.due(20, "the last without others", logs.rightAt(0, 1, 117), 119);
        IceLogs apart = new IceLogs();
        silent(apart, 1, 0, 0);
        silent(apart, 2, 5, 5);
        silent(apart, 3, 9, 9);
        Check.due(19, "nowhere", apart.right(1, 3), 0);
        Check.due(20, "nowhere", apart.rightAt(1, 3, 0), -1);
        apart.picture(0, 0, 0, 0);
        silent(apart, 2, 1, 0);
        Check.due(19, "a PICTURE", apart.right(3, 5), -1);
        Check.due(19, "told anew", apart.right(1, 5), -1);
        Check.due(20, "told anew", apart.rightAt(1, 5, 0), -1);
        Check.due(19, "not KNOWN", apart.right(4, 4), -1);
        Check.due(19, "none", apart.right(-1, 4), -1);
        Check.due(19, "no such n", apart.right(0, 6), -1);
        Check.due(20, "no such n", apart.rightAt(0, -1, 0), -1);
        Check.tell(logs, "move 2;");
        Check.due(19, "by MOVE 2", logs.right(1, 3), 13);
    }

    private static void tails() {
        IceLogs logs = new IceLogs();
        logs.tails(3, 10);
        logs.tails(3, 999);
        logs.tails(4, 5);
        logs.annul(0);
        Check.due(36, "the sum", logs.caught(3, 3), 1009);
        Check.due(36, "of one", logs.caught(3, 1), 10);
        Check.due(36, "without the annulled", logs.caught(3, 4), 999);
        Check.due(36, "another YEAR", logs.caught(4, 4), 5);
        Check.due(36, "none", logs.caught(39, 4), 0);
        Check.due(36, "no such YEAR", logs.caught(40, 4), -1);
        Check.due(36, "no such YEAR", logs.caught(-1, 4), -1);
        Check.due(36, "no such n", logs.caught(3, 5), -1);
        Check.due(36, "no such n", logs.caught(3, -1), -1);
    }

    private static void stocks() {
        IceLogs logs = Check.with("births 10;");
        logs.tails(0, 10);
        logs.tails(2, 50);
        logs.tails(2, 49);
        Check.due(37, "first they are taken, then more come", logs.stock(109, 0, 3), 108);
        Check.due(37, "rounded down", logs.stock(109, 1, 3), 118);
        Check.due(37, "two TAILS of a YEAR", logs.stock(109, 2, 3), 20);
        Check.due(37, "YEARS without TAILS", logs.stock(109, 4, 3), 24);
        Check.due(37, "as KNOWN by one", logs.stock(109, 2, 1), 129);
        Check.due(37, "not more than there are", logs.stock(10, 0, 3), 0);
        Check.due(37, "more than there are", logs.stock(9, 0, 3), -2);
        Check.due(37, "more in a later YEAR", logs.stock(50, 2, 3), -2);
        Check.due(37, "up to the YEAR alone", logs.stock(50, 1, 3), 48);
        Check.due(37, "999 at most", logs.stock(999, 0, 3), 999);
        Check.due(37, "none", logs.stock(0, 39, 0), 0);
        Check.due(38, "up to YEAR 0", logs.least(0, 3), 10);
        Check.due(38, "up to YEAR 1", logs.least(1, 3), 10);
        // 82 + 8 + 9 are 99; 81 + 8 + 8 are not
        Check.due(38, "up to YEAR 2", logs.least(2, 3), 92);
        Check.due(38, "up to YEAR 39", logs.least(39, 3), 92);
        Check.due(38, "as KNOWN by two", logs.least(2, 2), 10 + 42);
        Check.due(38, "as KNOWN by none", logs.least(39, 0), 0);
        Check.tell(logs, "births 100;");
        Check.due(37, "BIRTHS 100", logs.stock(20, 1, 3), 40);
        Check.due(37, "BIRTHS 100, 999 at most", logs.stock(510, 0, 3), 999);
        Check.due(38, "BIRTHS 100", logs.least(2, 3), 35);
        Check.tell(logs, "");
        Check.due(37, "BIRTHS 0", logs.stock(20, 1, 3), 10);
        Check.due(38, "BIRTHS 0", logs.least(2, 3), 109);
        logs.tails(5, 999);
        Check.due(38, "there is none", logs.least(5, 4), -2);
        Check.due(38, "not yet", logs.least(4, 4), 109);
        IceLogs all = new IceLogs();
        all.tails(0, 999);
        Check.due(38, "all there can be", all.least(0, 1), 999);
        all.tails(0, 1);
        Check.due(38, "one more", all.least(0, 2), -2);
        int[][] wrong = {{-1, 0, 0}, {1000, 0, 0}, {0, -1, 0}, {0, 40, 0}, {0, 0, -1}, {0, 0, 5}, {MIN, 0, 0}, {MAX, 0, 0}};
        for (int[] w : wrong) {
            Check.due(37, "no such", logs.stock(w[0], w[1], w[2]), -1);
        }
        Check.due(38, "no such", logs.least(-1, 0), -1);
        Check.due(38, "no such", logs.least(40, 0), -1);
        Check.due(38, "no such", logs.least(0, -1), -1);
        Check.due(38, "no such", logs.least(0, 5), -1);
    }

    private static void slots() {
        IceLogs logs = new IceLogs();
        Check.due(41, "nothing is held", logs.again(0), false);
        Check.due(40, "no such", logs.hold(-1), false);
        Check.due(40, "no such", logs.hold(3), false);
        Check.due(42, "none holds", logs.count(8), 0);
        logs.noon(1, 0, 0, 3, 5, 0, 0);
        logs.lean(1, 2);
        Check.due(40, "hold", logs.hold(1), true);
        Check.due(42, "one holds", logs.count(8), 1);
        logs.lean(1, -1);
        logs.annul(0);
        logs.tails(0, 9);
        Check.due(40, "hold", logs.hold(2), true);
        Check.due(41, "nothing is held there", logs.again(0), false);
        Check.due(41, "no such", logs.again(3), false);
        Check.due(41, "no such", logs.again(-1), false);
        Check.due(41, "nothing happened", logs.count(3), 3);
        Check.due(22, "nobody knows it", logs.span(3, 0, 0, 0, 3, 3), 0);
        Check.due(41, "again", logs.again(1), true);
        Check.due(41, "FACTS", logs.count(3), 1);
        Check.due(41, "LEANS", logs.span(3, 0, 0, 0, 1, 0), 7);
        Check.due(14, "the later FACTS are gone", logs.fact(1, 0), -1);
        Check.due(12, "they go on from there", logs.tails(5, 4), 1);
        Check.due(12, "and on", logs.tails(5, 3), 2);
        Check.due(36, "what is KNOWN now", logs.caught(5, 3), 7);
        Check.due(41, "what a SLOT holds stays", logs.again(1), true);
        Check.due(41, "FACTS", logs.count(3), 1);
        Check.due(41, "the other", logs.again(2), true);
        Check.due(41, "FACTS", logs.count(3), 3);
        Check.due(36, "what is KNOWN now", logs.caught(0, 3), 9);
        Check.due(17, "the VOID is there again", logs.state(0, 3), 3);
        Check.due(41, "LEANS", logs.span(3, 0, 0, 0, 1, 0), 4);
        Check.due(40, "held anew", logs.hold(1), true);
        Check.due(42, "two hold", logs.count(8), 2);
        logs.tails(0, 1);
        Check.due(41, "what was held anew", logs.again(1), true);
        Check.due(41, "FACTS", logs.count(3), 3);
        Check.due(41, "no SLOT is emptied", logs.count(8), 2);
    }
}
