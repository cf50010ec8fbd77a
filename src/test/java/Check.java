/** What the tests share: answers compared, texts told. */
final class Check {
    private static int wrong = 0;
    private static int done = 0;

    private Check() {
    }

    static void due(int promise, String call, long got, long want) {
        done++;
        if (got != want) {
            wrong++;
            System.out.println("promise " + promise + ": " + call + " answered " + got + ", due is " + want);
        }
    }

    static void due(int promise, String call, boolean got, boolean want) {
        due(promise, call, got ? 1 : 0, want ? 1 : 0);
    }

    static void finish() {
        System.out.println(done + " answers, " + wrong + " of them not as due");
        if (wrong != 0 || done == 0) {
            System.exit(1);
        }
    }

    /** Puts a text on the tape, by blocks of twenty bytes, what is too much taken back. */
    static void feed(IceLogs logs, String text) {
        for (int from = 0; from < text.length(); from += 20) {
            int[] words = new int[5];
            for (int i = 0; i < 20; i++) {
                int sign = from + i < text.length() ? text.charAt(from + i) : ' ';
                words[i / 4] = words[i / 4] << 8 | sign;
            }
            logs.feed(words[0], words[1], words[2], words[3], words[4]);
        }
        logs.back((20 - text.length() % 20) % 20);
    }

    static int tell(IceLogs logs, String text) {
        feed(logs, text);
        return logs.read();
    }

    /** A new object that has read a text without a FAULT. */
    static IceLogs with(String text) {
        IceLogs logs = new IceLogs();
        due(4, "read of " + text, tell(logs, text), 0);
        return logs;
    }
}
