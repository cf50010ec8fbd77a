import java.util.Arrays;

/** What the tests of boundaries share: the first and the last argument that is in, those that are out, calls that are refused. */
final class Bounds {
    static final int MIN = Integer.MIN_VALUE;
    static final int MAX = Integer.MAX_VALUE;
    static final int FAST = 0;
    static final int SIGHTED = 1;
    static final int BESET = 2;
    static final int CLEAR = 3;
    static final int SILENT = 4;
    private static final int BLANKS = 0x20202020;

    interface Maker {
        IceLogs make();
    }

    interface Call {
        int of(IceLogs logs, int... a);
    }

    private Bounds() {
    }

    static int[] to(int least, int most) {
        return new int[] {least, most};
    }

    /** An object with something of everything: a text, a FAULT behind it, FACTS of all kinds, LEANS, SLOTS, bytes on the tape. */
    static IceLogs some() {
        IceLogs logs = Check.with("land 4 4;edge=noise+x/3;share=off+3;whale=y;lead if x==2;want a=0-y;want b=x*price;sight 3;move 2;births 7;");
        Check.tell(logs, "edge=1;move 9;");
        logs.noon(0, 5, 21, 3, 6, FAST, 0);
        logs.noon(1, 5, 21, 3, 7, SIGHTED, 2);
        logs.noon(1, 5, 22, 3, 7, BESET, 0);
        logs.lean(1, -1);
        logs.hold(1);
        logs.picture(5, 3, 3, 6);
        logs.tails(5, 40);
        logs.annul(2);
        logs.lean(2, 2);
        logs.hold(2);
        logs.noon(5, 39, 111, 9, 11, SILENT, 0);
        logs.feed(0x6d6f7665, 0x20333b20, BLANKS, BLANKS, BLANKS);
        return logs;
    }

    /** The same with 120 FACTS. */
    static IceLogs full() {
        IceLogs logs = some();
        for (int i = logs.count(3); i < 120; i++) {
            logs.tails(6, i);
        }
        return logs;
    }

    /** What can be seen of an object; it is used up by that (some 400 calls). */
    static int[] seen(IceLogs logs) {
        int[] seen = new int[600];
        int many = 0;
        for (int what = 0; what < 9; what++) {
            seen[many++] = logs.count(what);
        }
        seen[many++] = logs.place();
        for (int i = 0; i < 12; i++) {
            for (int what = 0; what < 8; what++) {
                seen[many++] = logs.fact(i, what);
            }
        }
        for (int i = 105; i < 121; i++) {
            seen[many++] = logs.fact(i, 4);
        }
        for (int x = 0; x < 10; x++) {
            seen[many++] = logs.edge(x, 3, 5, 2);
            seen[many++] = logs.cell(x, 11 - x, 3, 5, 2, 0);
            seen[many++] = logs.cell(x, x, 3, 5, 2, 0);
            seen[many++] = logs.cell(x, x, 3, 5, 2, 1);
            seen[many++] = logs.cell(x, x, 3, 5, 2, 2);
        }
        for (int want = 0; want < 5; want++) {
            seen[many++] = logs.go(want, 6, 9, 3, 5, 2, 9, 7);
        }
        many = seenOfFacts(logs, seen, many);
        for (int slot = 0; slot < 3; slot++) {
            seen[many++] = logs.again(slot) ? 1 : 0;
            many = seenOfFacts(logs, seen, many);
        }
        seen[many++] = logs.read();
        seen[many++] = logs.place();
        seen[many++] = logs.count(6);
        return Arrays.copyOf(seen, many);
    }

    private static int seenOfFacts(IceLogs logs, int[] seen, int from) {
        int many = from;
        int n = logs.count(3);
        seen[many++] = n;
        for (int what = 0; what < 4; what++) {
            seen[many++] = logs.span(3, 3, 5, 0, n, what);
        }
        seen[many++] = logs.slips(n);
        seen[many++] = logs.caught(5, n);
        seen[many++] = logs.joined(n, 0);
        for (int ship = 0; ship < 6; ship++) {
            int fact = logs.noon(ship, 38, 0, ship, 6, FAST, 0);
            seen[many++] = fact;
            seen[many++] = logs.span(ship, 0, 38, 0, logs.count(3), 0);
        }
        return many;
    }

    /** A call answers that there is no such one, and nothing of the object is another for it. */
    static void refused(int promise, String sentence, Maker maker, Call call, int no, int... a) {
        IceLogs logs = maker.make();
        String told = sentence + " " + Arrays.toString(a);
        Check.due(promise, told, call.of(logs, a), no);
        Check.due(promise, told + " changes nothing", Arrays.equals(seen(logs), seen(maker.make())), true);
    }

    /** Argument by argument: its least and its greatest are in, what is one less or more is out, and the ends of all numbers. */
    static void ranges(int promise, String sentence, Maker maker, Call call, int no, int[] base, int[]... ranges) {
        for (int i = 0; i < ranges.length; i++) {
            if (ranges[i] == null) {
                continue;
            }
            for (int value : ranges[i]) {
                int[] a = with(base, i, value);
                Check.due(promise, sentence + " " + Arrays.toString(a) + " is in", call.of(maker.make(), a) != no, true);
            }
            for (int value : new int[] {ranges[i][0] - 1, ranges[i][1] + 1, MIN, MAX}) {
                refused(promise, sentence, maker, call, no, with(base, i, value));
            }
        }
    }

    private static int[] with(int[] base, int i, int value) {
        int[] a = base.clone();
        a[i] = value;
        return a;
    }
}
