/** Logs of ships that went where the ice was; the document's promises tell what each call answers. */
public final class IceLogs {
    public static final int NONE = -1;

    private static final int COLUMNS = 10;
    private static final int ROWS = 12;
    private static final int CELLS = 120;
    private static final int WEEKS = 16;
    private static final int YEARS = 40;
    private static final int NOISES = 10;
    private static final int DAYS = 112;
    private static final int WEEK_DAYS = 7;
    private static final int SHIPS = 6;
    private static final int KEPT_SHIPS = 4;
    private static final int PRICES = 100;
    private static final int SLACKS = 4;
    private static final int MOST_LEAN = 2;
    private static final int SLOTS = 3;
    private static final int FACT_LIMIT = 120;
    private static final int TAPE_LIMIT = 2000;
    private static final int FEED_BYTES = 20;
    private static final int STOCK_LIMIT = 1000;
    private static final int MOST_SHIFT = 5;

    private static final int NO_KEEPERS = -1000;
    private static final int NO_LEAN = -100;
    private static final int NO_SUM = -1000000;
    private static final int NEVER = -2;

    // CELLS
    private static final int WATER = 0;
    private static final int ICE = 1;
    private static final int LAND = 2;
    private static final int LEAD = 3;

    // FACTS and what is asked of them
    private static final int NOON = 0;
    private static final int PICTURE = 1;
    private static final int TAILS = 2;
    private static final int VOID = 3;
    private static final int TYPE = 0;
    private static final int YEAR = 1;
    private static final int DAY = 2;
    private static final int X = 3;
    private static final int Y = 4;
    private static final int KIND = 5;
    private static final int FAR = 6;
    private static final int SHIP = 7;
    private static final int FIELDS = 8;

    // KINDS of NOONS
    private static final int FAST = 0;
    private static final int SIGHTED = 1;
    private static final int BESET = 2;
    private static final int CLEAR = 3;
    private static final int SILENT = 4;
    private static final int KINDS = 5;
    private static final int MOST_FAR = 5;

    // states of NOONS
    private static final int GOOD = 0;
    private static final int SLIPPED = 1;
    private static final int COPIED = 2;
    private static final int TRACKLESS = 3;

    // TOKENS; the words of the language are FIRST_WORD and more, in the order of WORDS
    private static final int END = 0;
    private static final int BAD = 1;
    private static final int NAME = 2;
    private static final int INT = 3;
    private static final int SEMICOLON = 4;
    private static final int ASSIGN = 5;
    private static final int PLUS = 6;
    private static final int MINUS = 7;
    private static final int TIMES = 8;
    private static final int SLASH = 9;
    private static final int EQUAL = 10;
    private static final int UNEQUAL = 11;
    private static final int BELOW = 12;
    private static final int AT_MOST = 13;
    private static final int OPEN = 14;
    private static final int CLOSE = 15;
    private static final int FIRST_WORD = 20;
    private static final int WORD_LAND = 20;
    private static final int WORD_EDGE = 21;
    private static final int WORD_SHARE = 22;
    private static final int WORD_WHALE = 23;
    private static final int WORD_LEAD = 24;
    private static final int WORD_IF = 25;
    private static final int WORD_WANT = 26;
    private static final int WORD_SIGHT = 27;
    private static final int WORD_MOVE = 28;
    private static final int WORD_BIRTHS = 29;
    private static final int WORD_OR = 30;
    private static final int WORD_AND = 31;
    private static final int WORD_NOT = 32;
    private static final int FIRST_VAR = 33;
    private static final int LAST_VAR = 41;
    private static final String WORDS =
        "land edge share whale lead if want sight move births or and not x y week year noise off whales ice price ";

    // VARS, in the order of WORDS
    private static final int VAR_X = 0;
    private static final int VAR_Y = 1;
    private static final int VAR_WEEK = 2;
    private static final int VAR_YEAR = 3;
    private static final int VAR_NOISE = 4;
    private static final int VAR_OFF = 5;
    private static final int VAR_WHALES = 6;
    private static final int VAR_ICE = 7;
    private static final int VAR_PRICE = 8;
    private static final int VARS = 9;

    // FAULTS, and what is too much
    private static final int SYNTAX = 1;
    private static final int ROOM = 2;
    private static final int TWICE = 3;
    private static final int WRONG = 5;
    private static final int MOST_TOKENS = 400;
    private static final int MOST_LANDS = 30;
    private static final int MOST_LEADS = 4;
    private static final int MOST_WANTS = 4;
    private static final int MOST_OPEN = 6;
    private static final int LONGEST_NAME = 8;
    private static final int LONGEST_INT = 4;

    // codes of a law beside the signs of TOKENS: CODE_STOP ends each law, one for each TELL at most
    private static final int CODE_STOP = 0;
    private static final int CODE_PUSH = 1;
    private static final int CODE_LOAD = 2;
    private static final int CODE_OR = 3;
    private static final int MOST_CODES = 420;
    private static final int DEEPEST = 32;

    private final Tape tape;
    private final Parser parser;
    private final Text text;
    private final Ice ice;
    private final Sail sail;
    private final Escape escape;
    private final Facts facts;
    private final Facts[] slots;
    private final Tracks tracks;
    private final Spans spans;
    private final Trend trend;
    private final Keepers keepers;
    private int faultPlace;

    public IceLogs() {
        tape = new Tape();
        parser = new Parser(tape);
        text = new Text();
        ice = new Ice(text);
        sail = new Sail(text, ice);
        escape = new Escape(text, ice);
        facts = new Facts();
        slots = new Facts[SLOTS];
        for (int i = 0; i < SLOTS; i++) {
            slots[i] = new Facts();
        }
        tracks = new Tracks(text, facts);
        spans = new Spans(text, facts, tracks, ice);
        trend = new Trend(spans);
        keepers = new Keepers(text, facts, tracks);
        faultPlace = NONE;
    }

    // ---- the text ----

    public int feed(int a, int b, int c, int d, int e) {
        if (tape.length + FEED_BYTES > TAPE_LIMIT) {
            return NONE;
        }
        tape.append(a);
        tape.append(b);
        tape.append(c);
        tape.append(d);
        tape.append(e);
        return tape.length;
    }

    public int back(int n) {
        if (n < 0 || n > tape.length) {
            return NONE;
        }
        tape.length -= n;
        return tape.length;
    }

    public int read() {
        tape.findTokens();
        int fault = parser.parse();
        faultPlace = fault == 0 ? NONE : parser.faultPlace;
        if (fault == 0) {
            text.become(parser.draft);
            tracks.forget();
        }
        tape.length = 0;
        return fault;
    }

    public int place() {
        return faultPlace;
    }

    // ---- the ice and the ships ----

    public int edge(int x, int week, int year, int noise) {
        if (!isIn(x, COLUMNS) || !isMoment(week, year, noise)) {
            return NONE;
        }
        ice.setMoment(week, year, noise);
        return ice.edgeOf(x);
    }

    public int cell(int x, int y, int week, int year, int noise, int what) {
        if (!isCell(x, y) || !isMoment(week, year, noise)) {
            return NONE;
        }
        ice.setMoment(week, year, noise);
        int edge = ice.edgeOf(x);
        switch (what) {
            case 0: return ice.kindOf(x, y, edge);
            case 1: return ice.shareOf(x, y, edge);
            case 2: return ice.whalesOf(x, y, edge);
            default: return NONE;
        }
    }

    public int go(int want, int x, int y, int week, int year, int noise, int price, int d) {
        if (!isIn(want, text.wants) || !isCell(x, y) || !isMoment(week, year, noise)) {
            return NONE;
        }
        if (!isIn(price, PRICES) || !isIn(d, WEEK_DAYS + 1) || text.isLand(x, y)) {
            return NONE;
        }
        ice.survey(week, year, noise);
        sail.setWant(want, price);
        int at = ROWS * x + y;
        for (int i = 0; i < d; i++) {
            at = sail.dayFrom(at);
        }
        return at;
    }

    public int voyage(int ship, int want, int cell, int week, int year, int noise, int price, int d, int seed) {
        if (!isIn(ship, SHIPS) || !isIn(want, text.wants) || !isIn(cell, CELLS) || !isMoment(week, year, noise)) {
            return NONE;
        }
        if (!isIn(price, PRICES) || d < 1 || d > 30 || text.land[cell]) {
            return NONE;
        }
        int firstDay = WEEK_DAYS * week;
        int days = Math.min(d, DAYS - firstDay);
        if (facts.size + days > FACT_LIMIT) {
            return NONE;
        }
        int at = cell;
        for (int i = 0; i < days; i++) {
            if (i % WEEK_DAYS == 0) {
                ice.survey(week + i / WEEK_DAYS, year, noise);
                sail.setWant(want, price);
            }
            at = sail.dayFrom(at);
            writeNoon(ship, year, firstDay + i, at, seed, i);
        }
        return days;
    }

    private void writeNoon(int ship, int year, int day, int at, int seed, int i) {
        int kind = sail.sightFrom(at, lot(seed, 5 * i, 2) == 0);
        int far = kind == SIGHTED ? ice.offOf(at) : 0;
        int x = at / ROWS;
        int y = at % ROWS;
        if (lot(seed, 5 * i + 1, 12) == 0) {
            x = within(x + lot(seed, 5 * i + 2, 7) - 3, 0, COLUMNS - 1);
            y = within(y + lot(seed, 5 * i + 3, 7) - 3, 0, ROWS - 1);
        }
        facts.addNoon(ship, year, day, ROWS * x + y, kind, far);
    }

    // ---- facts ----

    public int noon(int ship, int year, int day, int x, int y, int kind, int far) {
        if (!isIn(ship, SHIPS) || !isIn(year, YEARS) || !isIn(day, DAYS) || !isCell(x, y) || !isIn(kind, KINDS)) {
            return NONE;
        }
        boolean farFits = kind == SIGHTED ? far >= 1 && far <= MOST_FAR : far == 0;
        if (!farFits) {
            return NONE;
        }
        return facts.addNoon(ship, year, day, ROWS * x + y, kind, far);
    }

    public int picture(int year, int week, int x, int row) {
        if (!isIn(year, YEARS) || !isIn(week, WEEKS) || !isIn(x, COLUMNS) || !isIn(row, ROWS + 1)) {
            return NONE;
        }
        int fact = facts.add(PICTURE, year);
        facts.set(fact, DAY, week);
        facts.set(fact, X, x);
        facts.set(fact, Y, row);
        return fact;
    }

    public int tails(int year, int many) {
        if (!isIn(year, YEARS) || !isIn(many, STOCK_LIMIT)) {
            return NONE;
        }
        int fact = facts.add(TAILS, year);
        facts.set(fact, Y, many);
        return fact;
    }

    public int annul(int fact) {
        if (!isIn(fact, facts.size) || facts.get(fact, TYPE) == VOID) {
            return NONE;
        }
        return facts.add(VOID, fact);
    }

    public int fact(int fact, int what) {
        return facts.get(fact, what);
    }

    // ---- tracks ----

    public int track(int ship, int year, int n) {
        if (!isIn(ship, SHIPS) || !isIn(year, YEARS) || !isKnown(n)) {
            return NONE;
        }
        tracks.know(n);
        return tracks.lengthOf(ship, year);
    }

    public int trackAt(int ship, int year, int n, int i) {
        if (!isIn(ship, SHIPS) || !isIn(year, YEARS) || !isKnown(n)) {
            return NONE;
        }
        tracks.know(n);
        return tracks.noonAt(ship, year, i);
    }

    public int state(int fact, int n) {
        if (!isKnown(n) || !isIn(fact, n)) {
            return NONE;
        }
        tracks.know(n);
        return tracks.stateOf(fact);
    }

    public int slips(int n) {
        if (!isKnown(n)) {
            return NONE;
        }
        tracks.know(n);
        return tracks.countSlips();
    }

    public int right(int fact, int n) {
        if (!isKnown(n) || !isIn(fact, n)) {
            return NONE;
        }
        tracks.know(n);
        return tracks.putRight(fact);
    }

    public int rightAt(int fact, int n, int i) {
        int many = right(fact, n);
        if (!isIn(i, many)) {
            return NONE;
        }
        return tracks.rightCellAt(i);
    }

    // ---- the edge by logs ----

    public boolean lean(int ship, int lean) {
        if (!isIn(ship, SHIPS) || lean < -MOST_LEAN || lean > MOST_LEAN) {
            return false;
        }
        facts.leans[ship] = lean;
        return true;
    }

    public int span(int x, int week, int year, int slack, int n, int what) {
        if (!isIn(x, COLUMNS) || !isWeekOf(week, year) || !isIn(slack, SLACKS) || !isKnown(n)) {
            return NONE;
        }
        tracks.know(n);
        spans.tally(x, week, year, slack);
        switch (what) {
            case 0: return spans.low;
            case 1: return spans.high;
            case 2: return spans.doubted;
            case 3: return spans.many;
            default: return NONE;
        }
    }

    public int fitting(int week, int year, int slack, int n) {
        if (!isWeekOf(week, year) || !isIn(slack, SLACKS) || !isKnown(n)) {
            return NONE;
        }
        tracks.know(n);
        return spans.fit(week, year, slack);
    }

    public int odds(int x, int y, int week, int year, int slack, int n) {
        if (!isCell(x, y) || !isWeekOf(week, year) || !isIn(slack, SLACKS) || !isKnown(n)) {
            return NONE;
        }
        tracks.know(n);
        int noises = spans.fit(week, year, slack);
        int icy = 0;
        for (int noise = 0; noise < NOISES; noise++) {
            if (has(noises, noise)) {
                ice.setMoment(week, year, noise);
                icy += ice.kindOf(x, y, ice.edgeOf(x)) == ICE ? 1 : 0;
            }
        }
        return 100 * icy + Integer.bitCount(noises);
    }

    public int keepers(int a, int b, int n, int what) {
        if (!isIn(a, SHIPS) || !isIn(b, SHIPS) || a >= b || !isKnown(n)) {
            return NO_KEEPERS;
        }
        tracks.know(n);
        keepers.meet(a, b);
        switch (what) {
            case 0: return keepers.many;
            case 1: return keepers.sum;
            default: return NO_KEEPERS;
        }
    }

    public int leanOf(int ship, int n) {
        if (!isIn(ship, KEPT_SHIPS) || !isKnown(n)) {
            return NO_LEAN;
        }
        tracks.know(n);
        return keepers.fittingLean(ship);
    }

    public int trend(int x, int week, int n, int what) {
        if (!isIn(x, COLUMNS) || !isIn(week, WEEKS) || !isKnown(n)) {
            return NONE;
        }
        tracks.know(n);
        trend.gather(x, week);
        switch (what) {
            case 0: return trend.many;
            case 1: return trend.backs;
            case 2: return trend.forths;
            case 3: return trend.countWays();
            default: return NONE;
        }
    }

    public int nowhere(int year, int n) {
        if (!isIn(year, YEARS) || !isKnown(n)) {
            return NONE;
        }
        tracks.know(n);
        int without = 0;
        for (int week = 0; week < WEEKS; week++) {
            without += COLUMNS - Integer.bitCount(spans.columnsSeen(week, year));
        }
        return without;
    }

    public int next(int week, int year, int slack, int n) {
        if (!isWeekOf(week, year) || !isIn(slack, SLACKS) || !isKnown(n)) {
            return NONE;
        }
        tracks.know(n);
        int noises = spans.fit(week, year, slack);
        int best = 0;
        for (int x = 1; x < COLUMNS; x++) {
            if (spans.mostAlike(x, noises) < spans.mostAlike(best, noises)) {
                best = x;
            }
        }
        return best;
    }

    // ---- getting out ----

    public int out(int x, int y, int week, int year, int noise) {
        if (!isCell(x, y) || !isMoment(week, year, noise)) {
            return NONE;
        }
        return escape.isOut(ROWS * x + y, week, year, noise) ? 1 : 0;
    }

    public int last(int x, int y, int year, int noise) {
        if (!isCell(x, y) || !isMoment(0, year, noise)) {
            return NONE;
        }
        return escape.lastWeek(ROWS * x + y, year, 1 << noise);
    }

    public int surely(int x, int y, int look, int year, int slack, int n) {
        if (!isCell(x, y) || !isWeekOf(look, year) || !isIn(slack, SLACKS) || !isKnown(n)) {
            return NONE;
        }
        tracks.know(n);
        return escape.lastWeek(ROWS * x + y, year, spans.fit(look, year, slack));
    }

    // ---- what an eye sees, and what a want shows ----

    public int eye(int x, int week, int year, int noise, int least) {
        if (!isIn(x, COLUMNS) || !isMoment(week, year, noise) || least < 1 || least > 10) {
            return NONE;
        }
        ice.setMoment(week, year, noise);
        int edge = ice.edgeOf(x);
        for (int y = ROWS - 1; y >= 0; y--) {
            if (ice.shareOf(x, y, edge) >= least) {
                return y + 1;
            }
        }
        return 0;
    }

    public int wanted(int want, int week, int year, int noise, int price) {
        if (!isIn(want, text.wants) || !isMoment(week, year, noise) || !isIn(price, PRICES)) {
            return NO_SUM;
        }
        ice.survey(week, year, noise);
        sail.setWant(want, price);
        int allEdges = 0;
        for (int x = 0; x < COLUMNS; x++) {
            allEdges += ice.edges[x];
        }
        int sum = 0;
        for (int x = 0; x < COLUMNS; x++) {
            int at = ice.southernmostWater(x);
            for (int i = 0; i < WEEK_DAYS && at != NONE; i++) {
                at = sail.dayFrom(at);
                sum += 10 * ice.edgeAt(at) - allEdges;
            }
        }
        return sum;
    }

    public int joined(int n, int what) {
        if (!isKnown(n) || !isIn(what, 3)) {
            return NO_LEAN;
        }
        tracks.know(n);
        spans.join(n);
        switch (what) {
            case 0: return spans.shift;
            case 1: return spans.alike;
            default: return spans.pictures;
        }
    }

    // ---- tails ----

    public int caught(int year, int n) {
        if (!isIn(year, YEARS) || !isKnown(n)) {
            return NONE;
        }
        tracks.know(n);
        return tracks.tailsOf(year);
    }

    public int stock(int s, int year, int n) {
        if (!isIn(s, STOCK_LIMIT) || !isIn(year, YEARS) || !isKnown(n)) {
            return NONE;
        }
        tracks.know(n);
        int left = s;
        for (int i = 0; i <= year && left >= 0; i++) {
            left = stockBehind(left, tracks.tailsOf(i));
        }
        return left;
    }

    public int least(int year, int n) {
        if (!isIn(year, YEARS) || !isKnown(n)) {
            return NONE;
        }
        // a greater stock never leaves less behind a year: the least one is found by halves
        int low = 0;
        int high = STOCK_LIMIT;
        for (int i = 0; i < 20 && low < high; i++) {
            int middle = (low + high) / 2;
            if (stock(middle, year, n) == NEVER) {
                low = middle + 1;
            } else {
                high = middle;
            }
        }
        return low == STOCK_LIMIT ? NEVER : low;
    }

    private int stockBehind(int before, int taken) {
        if (taken > before) {
            return NEVER;
        }
        int left = before - taken;
        return Math.min(left + left * text.births / 100, STOCK_LIMIT - 1);
    }

    // ---- what may be said ----

    public int say(int x, int week, int year, int n) {
        if (!isIn(x, COLUMNS) || !isWeekOf(week, year) || !isKnown(n)) {
            return NONE;
        }
        tracks.know(n);
        int said = has(spans.columnsSeen(week, year), x) ? 1 : 0;
        spans.tally(x, week, year, 0);
        said += spans.low == spans.high ? 2 : 0;
        said += spans.doubted == 0 ? 4 : 0;
        int noises = spans.fit(week, year, 0);
        said += spans.fitAll() && Integer.bitCount(noises) <= 3 ? 8 : 0;
        trend.gather(x, week);
        said += trend.countWays() * 20 <= trend.countAll() ? 16 : 0;
        said += tracks.hasPicture(x, week, year) ? 32 : 0;
        return said;
    }

    // ---- slots ----

    public boolean hold(int slot) {
        if (!isIn(slot, SLOTS)) {
            return false;
        }
        slots[slot].become(facts);
        slots[slot].held = true;
        return true;
    }

    public boolean again(int slot) {
        if (!isIn(slot, SLOTS) || !slots[slot].held) {
            return false;
        }
        facts.become(slots[slot]);
        tracks.forget();
        return true;
    }

    public int count(int what) {
        switch (what) {
            case 0: return text.lands;
            case 1: return text.leads;
            case 2: return text.wants;
            case 3: return facts.size;
            case 4: return tape.length;
            case 5: return text.sight;
            case 6: return text.move;
            case 7: return text.births;
            case 8: return countHeld();
            default: return NONE;
        }
    }

    private int countHeld() {
        int held = 0;
        for (int i = 0; i < SLOTS; i++) {
            held += slots[i].held ? 1 : 0;
        }
        return held;
    }

    // ---- what all parts use ----

    private boolean isKnown(int n) {
        return isIn(n, facts.size + 1);
    }

    private static boolean isIn(int value, int many) {
        return value >= 0 && value < many;
    }

    private static boolean isCell(int x, int y) {
        return isIn(x, COLUMNS) && isIn(y, ROWS);
    }

    private static boolean isWeekOf(int week, int year) {
        return isIn(week, WEEKS) && isIn(year, YEARS);
    }

    private static boolean isMoment(int week, int year, int noise) {
        return isWeekOf(week, year) && isIn(noise, NOISES);
    }

    private static boolean has(int bits, int i) {
        return (bits >> i & 1) == 1;
    }

    private static int within(int value, int least, int most) {
        return Math.max(least, Math.min(most, value));
    }

    /** LOT n of a SEED and a which. */
    private static int lot(int seed, int which, int n) {
        if (n <= 0) {
            return 0;
        }
        int h = stir(stir(seed, 12), which);
        return (h >>> 1) % n;
    }

    private static int stir(int h, int it) {
        int stirred = (h ^ it) * 1103515245 + 12345;
        return stirred ^ stirred >>> 15;
    }

    /** The cell beside another: side 0 itself, 1 north, 2 east, 3 south, 4 west; NONE behind the map's edges. */
    private static int beside(int at, int side) {
        int x = at / ROWS;
        int y = at % ROWS;
        switch (side) {
            case 0: return at;
            case 1: return y > 0 ? at - 1 : NONE;
            case 2: return x < COLUMNS - 1 ? at + ROWS : NONE;
            case 3: return y < ROWS - 1 ? at + 1 : NONE;
            case 4: return x > 0 ? at - ROWS : NONE;
            default: return NONE;
        }
    }

    /** The tape, and the TOKENS on it. */
    private static final class Tape {
        final byte[] bytes = new byte[TAPE_LIMIT];
        int length;
        // the TOKENS of a text, up to the first that is too many or none, or the end: of an INT its value, of a
        // NAME its letters as one number
        final int[] kinds = new int[MOST_TOKENS + 1];
        final int[] starts = new int[MOST_TOKENS + 1];
        final long[] values = new long[MOST_TOKENS + 1];
        int many;
        int position;
        long value;

        void append(int word) {
            for (int shift = 24; shift >= 0; shift -= 8) {
                if (isIn(length, TAPE_LIMIT)) {
                    bytes[length] = (byte) (word >> shift);
                    length++;
                }
            }
        }

        void findTokens() {
            position = 0;
            many = 0;
            boolean more = true;
            for (int i = 0; i <= MOST_TOKENS && more; i++) {
                skipBlanks();
                starts[i] = position;
                value = 0;
                kinds[i] = passToken();
                values[i] = value;
                many++;
                more = kinds[i] != END && kinds[i] != BAD;
            }
        }

        private void skipBlanks() {
            for (int i = 0; i < TAPE_LIMIT && isBlank(signAt(position)); i++) {
                position++;
            }
        }

        private int passToken() {
            int sign = signAt(position);
            if (sign == NONE) {
                return END;
            }
            if (isLetter(sign)) {
                return passWord();
            }
            return isDigit(sign) ? passInt() : passSign(sign);
        }

        private int signAt(int i) {
            return isIn(i, length) && i < TAPE_LIMIT ? bytes[i] & 255 : NONE;
        }

        private static boolean isBlank(int sign) {
            return sign == 9 || sign == 10 || sign == 13 || sign == 32;
        }

        private static boolean isLetter(int sign) {
            return sign >= 'a' && sign <= 'z';
        }

        private static boolean isDigit(int sign) {
            return sign >= '0' && sign <= '9';
        }

        private int passWord() {
            int first = position;
            for (int i = 0; i < TAPE_LIMIT && isLetter(signAt(position)); i++) {
                value = value * 32 + (signAt(position) - 'a' + 1);
                position++;
            }
            return position - first > LONGEST_NAME ? BAD : wordOf(first, position - first);
        }

        private int wordOf(int first, int size) {
            int word = FIRST_WORD;
            int begin = 0;
            for (int i = 0; i < WORDS.length(); i++) {
                if (WORDS.charAt(i) == ' ') {
                    if (i - begin == size && isAlike(begin, first, size)) {
                        return word;
                    }
                    word++;
                    begin = i + 1;
                }
            }
            return NAME;
        }

        private boolean isAlike(int begin, int first, int size) {
            for (int i = 0; i < size; i++) {
                if (!isIn(begin + i, WORDS.length()) || WORDS.charAt(begin + i) != signAt(first + i)) {
                    return false;
                }
            }
            return true;
        }

        private int passInt() {
            int first = position;
            for (int i = 0; i < TAPE_LIMIT && isDigit(signAt(position)); i++) {
                value = value * 10 + (signAt(position) - '0');
                position++;
            }
            return position - first > LONGEST_INT ? BAD : INT;
        }

        private int passSign(int sign) {
            position++;
            boolean isDouble = signAt(position) == '=' && (sign == '=' || sign == '!' || sign == '<');
            if (isDouble) {
                position++;
            }
            switch (sign) {
                case ';': return SEMICOLON;
                case '+': return PLUS;
                case '-': return MINUS;
                case '*': return TIMES;
                case '/': return SLASH;
                case '(': return OPEN;
                case ')': return CLOSE;
                case '=': return isDouble ? EQUAL : ASSIGN;
                case '!': return isDouble ? UNEQUAL : BAD;
                case '<': return isDouble ? AT_MOST : BELOW;
                default: return BAD;
            }
        }
    }

    /** Reads the tape's text into a draft, and finds its first FAULT. */
    private static final class Parser {
        final Tape tape;
        final Text draft = new Text();
        final long[] names = new long[MOST_WANTS];
        // the TOKEN looked at
        int index;
        int kind;
        int start;
        int value;
        int fault;
        int faultPlace;
        // the first FAULT that counts only where the whole text has no SYNTAX or ROOM
        int doubt;
        int doubtPlace;

        Parser(Tape tape) {
            this.tape = tape;
        }

        int parse() {
            draft.clear();
            fault = 0;
            doubt = 0;
            lookAt(0);
            for (int i = 0; i <= MOST_TOKENS && fault == 0 && kind != END; i++) {
                switch (kind) {
                    case WORD_LAND: tellLand(); break;
                    case WORD_EDGE: draft.edgeLaw = tellLaw(); break;
                    case WORD_SHARE: draft.shareLaw = tellLaw(); break;
                    case WORD_WHALE: draft.whaleLaw = tellLaw(); break;
                    case WORD_LEAD: tellLead(); break;
                    case WORD_WANT: tellWant(); break;
                    case WORD_SIGHT: draft.sight = tellNumber(0, 5); break;
                    case WORD_MOVE: draft.move = tellNumber(1, 3); break;
                    case WORD_BIRTHS: draft.births = tellNumber(0, 100); break;
                    default: fail(SYNTAX);
                }
            }
            if (fault == 0) {
                fault = doubt;
                faultPlace = doubtPlace;
            }
            return fault;
        }

        private void lookAt(int i) {
            index = i;
            if (i >= 0 && i < tape.many && i <= MOST_TOKENS) {
                kind = tape.kinds[i];
                start = tape.starts[i];
                value = kind == INT ? (int) tape.values[i] : 0;
            }
        }

        private void fail(int number) {
            if (fault == 0) {
                fault = number;
                faultPlace = start;
            }
        }

        private void doubtIf(boolean wrong, int number, int at) {
            if (wrong && doubt == 0) {
                doubt = number;
                doubtPlace = at;
            }
        }

        /** The TOKEN looked at must be of this kind; behind a FAULT nothing is taken any more. */
        private void take(int wanted) {
            if (fault != 0) {
                return;
            }
            if (kind != wanted) {
                fail(SYNTAX);
            } else if (index >= MOST_TOKENS) {
                fail(ROOM);
            } else {
                lookAt(index + 1);
            }
        }

        private boolean isNext(int wanted) {
            return fault == 0 && kind == wanted;
        }

        private void tellLand() {
            if (draft.lands >= MOST_LANDS) {
                fail(ROOM);
            }
            take(WORD_LAND);
            int xPlace = start;
            int x = value;
            take(INT);
            int yPlace = start;
            int y = value;
            take(INT);
            take(SEMICOLON);
            if (fault != 0) {
                return;
            }
            draft.lands++;
            doubtIf(x >= COLUMNS, WRONG, xPlace);
            doubtIf(y >= ROWS, WRONG, yPlace);
            if (isCell(x, y)) {
                doubtIf(draft.land[ROWS * x + y], TWICE, yPlace);
                draft.land[ROWS * x + y] = true;
            }
        }

        private int tellLaw() {
            take(kind);
            return tellSumLaw();
        }

        private int tellSumLaw() {
            int law = draft.size;
            take(ASSIGN);
            tellSum(0);
            take(SEMICOLON);
            draft.emit(CODE_STOP, 0);
            return law;
        }

        private void tellLead() {
            if (draft.leads >= MOST_LEADS) {
                fail(ROOM);
            }
            int law = draft.size;
            take(WORD_LEAD);
            take(WORD_IF);
            tellCondition();
            take(SEMICOLON);
            draft.emit(CODE_STOP, 0);
            if (fault == 0 && isIn(draft.leads, MOST_LEADS)) {
                draft.leadLaws[draft.leads] = law;
                draft.leads++;
            }
        }

        private void tellWant() {
            if (draft.wants >= MOST_WANTS) {
                fail(ROOM);
            }
            take(WORD_WANT);
            int namePlace = start;
            long name = isIn(index, tape.many) && index <= MOST_TOKENS ? tape.values[index] : 0;
            take(NAME);
            int law = tellSumLaw();
            if (fault == 0 && isIn(draft.wants, MOST_WANTS)) {
                for (int i = 0; i < draft.wants; i++) {
                    doubtIf(names[i] == name, TWICE, namePlace);
                }
                names[draft.wants] = name;
                draft.wantLaws[draft.wants] = law;
                draft.wants++;
            }
        }

        private int tellNumber(int least, int most) {
            take(kind);
            int at = start;
            int number = value;
            take(INT);
            take(SEMICOLON);
            doubtIf(number < least || number > most, WRONG, at);
            return number;
        }

        // 'and' binds closer than 'or', and neither stands in brackets: so LITS follow one another
        private void tellCondition() {
            tellLiteral();
            for (int i = 0; i < MOST_TOKENS && (isNext(WORD_OR) || isNext(WORD_AND)); i++) {
                if (kind == WORD_OR) {
                    draft.emit(CODE_OR, 0);
                }
                take(kind);
                tellLiteral();
            }
        }

        private void tellLiteral() {
            int negated = 0;
            for (int i = 0; i < MOST_TOKENS && isNext(WORD_NOT); i++) {
                take(WORD_NOT);
                negated = 1 - negated;
            }
            tellSum(0);
            int sign = kind;
            if (sign == EQUAL || sign == UNEQUAL || sign == BELOW || sign == AT_MOST) {
                take(sign);
            } else {
                fail(SYNTAX);
            }
            tellSum(0);
            draft.emit(sign, negated);
        }

        // open: how many brackets are open around; their limit also ends the recursion
        private void tellSum(int open) {
            tellPart(open);
            for (int i = 0; i < MOST_TOKENS && (isNext(PLUS) || isNext(MINUS)); i++) {
                int sign = kind;
                take(sign);
                tellPart(open);
                draft.emit(sign, 0);
            }
        }

        private void tellPart(int open) {
            tellUnit(open);
            for (int i = 0; i < MOST_TOKENS && (isNext(TIMES) || isNext(SLASH)); i++) {
                int sign = kind;
                take(sign);
                tellUnit(open);
                draft.emit(sign, 0);
            }
        }

        private void tellUnit(int open) {
            if (isNext(INT)) {
                draft.emit(CODE_PUSH, value);
                take(INT);
            } else if (fault == 0 && kind >= FIRST_VAR && kind <= LAST_VAR) {
                draft.emit(CODE_LOAD, kind - FIRST_VAR);
                take(kind);
            } else if (isNext(OPEN) && open < MOST_OPEN) {
                take(OPEN);
                tellSum(open + 1);
                take(CLOSE);
            } else {
                fail(isNext(OPEN) ? ROOM : SYNTAX);
            }
        }
    }

    /** What a text tells; laws are runs of codes, each ended by CODE_STOP. */
    private static final class Text {
        final boolean[] land = new boolean[CELLS];
        final int[] codes = new int[MOST_CODES];
        final int[] values = new int[MOST_CODES];
        final int[] leadLaws = new int[MOST_LEADS];
        final int[] wantLaws = new int[MOST_WANTS];
        int size;
        int lands;
        int leads;
        int wants;
        int edgeLaw;
        int shareLaw;
        int whaleLaw;
        int sight;
        int move;
        int births;

        Text() {
            clear();
        }

        /** What stands if nothing is told. */
        void clear() {
            for (int i = 0; i < CELLS; i++) {
                land[i] = false;
            }
            size = 0;
            lands = 0;
            leads = 0;
            wants = 0;
            sight = 2;
            move = 1;
            births = 0;
            edgeLaw = constantLaw(5);
            shareLaw = constantLaw(0);
            whaleLaw = constantLaw(1);
        }

        private int constantLaw(int value) {
            int law = size;
            emit(CODE_PUSH, value);
            emit(CODE_STOP, 0);
            return law;
        }

        void emit(int code, int value) {
            if (isIn(size, MOST_CODES)) {
                codes[size] = code;
                values[size] = value;
                size++;
            }
        }

        void become(Text other) {
            for (int i = 0; i < CELLS; i++) {
                land[i] = other.land[i];
            }
            System.arraycopy(other.codes, 0, codes, 0, MOST_CODES);
            System.arraycopy(other.values, 0, values, 0, MOST_CODES);
            System.arraycopy(other.leadLaws, 0, leadLaws, 0, MOST_LEADS);
            System.arraycopy(other.wantLaws, 0, wantLaws, 0, MOST_WANTS);
            size = other.size;
            lands = other.lands;
            leads = other.leads;
            wants = other.wants;
            edgeLaw = other.edgeLaw;
            shareLaw = other.shareLaw;
            whaleLaw = other.whaleLaw;
            sight = other.sight;
            move = other.move;
            births = other.births;
        }

        boolean isLand(int x, int y) {
            return isCell(x, y) && land[ROWS * x + y];
        }
    }

    /** What the laws say of a moment (a week, a YEAR, a NOISE). */
    private static final class Ice {
        final Text text;
        final int[] vars = new int[VARS];
        final int[] stack = new int[DEEPEST];
        int top;
        boolean dividedByZero;
        // of the moment surveyed
        final int[] edges = new int[COLUMNS];
        final int[] kinds = new int[CELLS];

        Ice(Text text) {
            this.text = text;
        }

        void setMoment(int week, int year, int noise) {
            vars[VAR_WEEK] = week;
            vars[VAR_YEAR] = year;
            vars[VAR_NOISE] = noise;
        }

        /** Looks at all EDGES and CELLS of a moment. */
        void survey(int week, int year, int noise) {
            setMoment(week, year, noise);
            for (int x = 0; x < COLUMNS; x++) {
                edges[x] = edgeOf(x);
                for (int y = 0; y < ROWS; y++) {
                    kinds[ROWS * x + y] = kindOf(x, y, edges[x]);
                }
            }
        }

        /** THE EDGE of an x at the moment set. */
        int edgeOf(int x) {
            setPlace(x, 0, 0);
            return within(valueOf(text.edgeLaw), 0, ROWS);
        }

        int kindOf(int x, int y, int edge) {
            if (text.isLand(x, y)) {
                return LAND;
            }
            if (y >= edge) {
                return WATER;
            }
            setPlace(x, y, y - edge);
            for (int i = 0; i < text.leads && i < MOST_LEADS; i++) {
                if (holds(text.leadLaws[i])) {
                    return LEAD;
                }
            }
            return ICE;
        }

        int shareOf(int x, int y, int edge) {
            if (text.isLand(x, y)) {
                return 0;
            }
            setPlace(x, y, y - edge);
            return within(valueOf(text.shareLaw), 0, 10);
        }

        int whalesOf(int x, int y, int edge) {
            if (text.isLand(x, y)) {
                return 0;
            }
            setPlace(x, y, y - edge);
            return within(valueOf(text.whaleLaw), 0, 99);
        }

        /** What a WANT says of a cell (no LAND) of the moment surveyed that has so many whales. */
        int worthOf(int at, int want, int whales, int price) {
            if (!isIn(want, MOST_WANTS)) {
                return 0;
            }
            setPlace(at / ROWS, at % ROWS, offOf(at));
            vars[VAR_WHALES] = whales;
            vars[VAR_ICE] = iceBeside(at);
            vars[VAR_PRICE] = price;
            return valueOf(text.wantLaws[want]);
        }

        int edgeAt(int at) {
            return isIn(at, CELLS) ? edges[at / ROWS] : 0;
        }

        int offOf(int at) {
            return at % ROWS - edgeAt(at);
        }

        boolean isIce(int at) {
            return isIn(at, CELLS) && kinds[at] == ICE;
        }

        boolean isWater(int at) {
            return isIn(at, CELLS) && (kinds[at] == WATER || kinds[at] == LEAD);
        }

        int iceBeside(int at) {
            int icy = 0;
            for (int side = 1; side <= 4; side++) {
                icy += isIce(beside(at, side)) ? 1 : 0;
            }
            return icy;
        }

        int southernmostWater(int x) {
            for (int y = ROWS - 1; y >= 0; y--) {
                if (isCell(x, y) && kinds[ROWS * x + y] == WATER) {
                    return ROWS * x + y;
                }
            }
            return NONE;
        }

        private void setPlace(int x, int y, int off) {
            vars[VAR_X] = x;
            vars[VAR_Y] = y;
            vars[VAR_OFF] = off;
            vars[VAR_WHALES] = 0;
            vars[VAR_ICE] = 0;
            vars[VAR_PRICE] = 0;
        }

        private int valueOf(int law) {
            top = 0;
            dividedByZero = false;
            for (int i = law; isIn(i, MOST_CODES) && text.codes[i] != CODE_STOP; i++) {
                reckon(text.codes[i], text.values[i]);
            }
            return dividedByZero ? 0 : stack[0];
        }

        private boolean holds(int law) {
            top = 0;
            dividedByZero = false;
            boolean any = false;
            boolean all = true;
            for (int i = law; isIn(i, MOST_CODES) && text.codes[i] != CODE_STOP; i++) {
                int code = text.codes[i];
                if (code == CODE_OR) {
                    any = any || all;
                    all = true;
                } else if (code >= EQUAL && code <= AT_MOST) {
                    boolean negated = text.values[i] == 1;
                    all = compare(code) != negated && all;
                } else {
                    reckon(code, text.values[i]);
                }
            }
            return any || all;
        }

        /** Compares the two that are on the stack, which is empty then. */
        private boolean compare(int sign) {
            int left = stack[0];
            int right = stack[1];
            boolean failed = dividedByZero;
            top = 0;
            dividedByZero = false;
            if (failed) {
                return false;
            }
            switch (sign) {
                case EQUAL: return left == right;
                case UNEQUAL: return left != right;
                case BELOW: return left < right;
                default: return left <= right;
            }
        }

        private void reckon(int code, int value) {
            if (code == CODE_PUSH && isIn(top, DEEPEST)) {
                stack[top] = value;
                top++;
            } else if (code == CODE_LOAD && isIn(top, DEEPEST) && isIn(value, VARS)) {
                stack[top] = vars[value];
                top++;
            } else if (top >= 2 && top <= DEEPEST) {
                top--;
                stack[top - 1] = combine(code, stack[top - 1], stack[top]);
            }
        }

        private int combine(int sign, int left, int right) {
            switch (sign) {
                case PLUS: return left + right;
                case MINUS: return left - right;
                case TIMES: return left * right;
                default:
                    if (right == 0) {
                        dividedByZero = true;
                        return 0;
                    }
                    return left / right;
            }
        }
    }

    /** A ship that goes by a WANT through the moment surveyed. */
    private static final class Sail {
        final Text text;
        final Ice ice;
        // what the WANT says of a cell stays as it is for a moment: it is asked once
        final int[] worths = new int[CELLS];
        final boolean[] asked = new boolean[CELLS];
        int want;
        int price;

        Sail(Text text, Ice ice) {
            this.text = text;
            this.ice = ice;
        }

        /** To be called behind each survey. */
        void setWant(int want, int price) {
            this.want = want;
            this.price = price;
            for (int i = 0; i < CELLS; i++) {
                asked[i] = false;
            }
        }

        int dayFrom(int at) {
            int there = at;
            for (int i = 0; i < text.move; i++) {
                there = stepFrom(there);
            }
            return there;
        }

        private int stepFrom(int at) {
            int best = NONE;
            for (int side = 0; side <= 4; side++) {
                int there = beside(at, side);
                if (ice.isWater(there) && (best == NONE || worthOf(there) > worthOf(best))) {
                    best = there;
                }
            }
            return best == NONE ? at : best;
        }

        private int worthOf(int at) {
            if (!isIn(at, CELLS)) {
                return 0;
            }
            if (!asked[at]) {
                int whales = ice.whalesOf(at / ROWS, at % ROWS, ice.edgeAt(at));
                worths[at] = ice.worthOf(at, want, whales, price);
                asked[at] = true;
            }
            return worths[at];
        }

        /** The KIND that a ship writes. */
        int sightFrom(int at, boolean clearLot) {
            if (ice.isIce(at)) {
                return BESET;
            }
            if (ice.iceBeside(at) > 0) {
                return FAST;
            }
            int off = ice.offOf(at);
            if (off >= 1 && off <= text.sight) {
                return SIGHTED;
            }
            return clearLot ? CLEAR : SILENT;
        }
    }

    /**
     * The cells from which a ship gets out. Ways can be gone both ways within a week: so from the last week on back,
     * those cells are sought that lie near enough to y 11, or to where one gets out from in the week behind.
     */
    private static final class Escape {
        final Text text;
        final Ice ice;
        // by NOISE and cell: if one gets out from there, in the week looked at last
        final boolean[] open = new boolean[NOISES * CELLS];
        final int[] steps = new int[CELLS];
        final int[] queue = new int[CELLS];
        int waiting;

        Escape(Text text, Ice ice) {
            this.text = text;
            this.ice = ice;
        }

        boolean isOut(int at, int week, int year, int noise) {
            closeAll();
            for (int i = WEEKS - 1; i >= week && i >= 0; i--) {
                lookAt(i, year, noise);
            }
            return isOpen(at, noise);
        }

        /** The last week in which a ship at a cell gets out with each of some NOISES (bits), else NEVER. */
        int lastWeek(int at, int year, int noises) {
            closeAll();
            for (int week = WEEKS - 1; week >= 0; week--) {
                boolean all = true;
                for (int noise = 0; noise < NOISES; noise++) {
                    if (has(noises, noise)) {
                        lookAt(week, year, noise);
                        all = isOpen(at, noise) && all;
                    }
                }
                if (all) {
                    return week;
                }
            }
            return NEVER;
        }

        private void closeAll() {
            for (int i = 0; i < open.length; i++) {
                open[i] = false;
            }
        }

        private boolean isOpen(int at, int noise) {
            return isIn(at, CELLS) && isIn(noise, NOISES) && open[CELLS * noise + at];
        }

        // the week behind this one must have been looked at, with this NOISE
        private void lookAt(int week, int year, int noise) {
            ice.survey(week, year, noise);
            waiting = 0;
            for (int i = 0; i < CELLS; i++) {
                steps[i] = NONE;
                if (ice.isWater(i) && (i % ROWS == ROWS - 1 || isOpen(i, noise))) {
                    reach(i, 0);
                }
            }
            spread();
            for (int i = 0; i < CELLS && isIn(noise, NOISES); i++) {
                open[CELLS * noise + i] = steps[i] != NONE;
            }
        }

        private void spread() {
            int most = WEEK_DAYS * text.move;
            for (int i = 0; i < waiting && i < CELLS; i++) {
                int at = queue[i];
                int step = isIn(at, CELLS) ? steps[at] : most;
                for (int side = 1; side <= 4 && step < most; side++) {
                    int there = beside(at, side);
                    if (ice.isWater(there) && steps[there] == NONE) {
                        reach(there, step + 1);
                    }
                }
            }
        }

        private void reach(int at, int step) {
            if (isIn(at, CELLS) && isIn(waiting, CELLS)) {
                steps[at] = step;
                queue[waiting] = at;
                waiting++;
            }
        }
    }

    /** FACTS by their numbers, and LEANS told. */
    private static final class Facts {
        final int[] fields = new int[FACT_LIMIT * FIELDS];
        final int[] leans = new int[SHIPS];
        int size;
        boolean held;

        /** A FACT that has nothing but its type and its YEAR (a VOID: its FACT); NONE if there is no room. */
        int add(int type, int year) {
            if (!isIn(size, FACT_LIMIT)) {
                return NONE;
            }
            int fact = size;
            size++;
            for (int what = 0; what < FIELDS; what++) {
                set(fact, what, NONE);
            }
            set(fact, TYPE, type);
            set(fact, YEAR, year);
            return fact;
        }

        int addNoon(int ship, int year, int day, int at, int kind, int far) {
            int fact = add(NOON, year);
            set(fact, DAY, day);
            set(fact, X, at / ROWS);
            set(fact, Y, at % ROWS);
            set(fact, KIND, kind);
            set(fact, FAR, far);
            set(fact, SHIP, ship);
            return fact;
        }

        void set(int fact, int what, int value) {
            if (isIn(fact, size) && isIn(fact, FACT_LIMIT) && isIn(what, FIELDS)) {
                fields[fact * FIELDS + what] = value;
            }
        }

        int get(int fact, int what) {
            if (!isIn(fact, size) || !isIn(fact, FACT_LIMIT) || !isIn(what, FIELDS)) {
                return NONE;
            }
            return fields[fact * FIELDS + what];
        }

        int leanOfShipOf(int noon) {
            int ship = get(noon, SHIP);
            return isIn(ship, SHIPS) ? leans[ship] : 0;
        }

        void become(Facts other) {
            System.arraycopy(other.fields, 0, fields, 0, FACT_LIMIT * FIELDS);
            System.arraycopy(other.leans, 0, leans, 0, SHIPS);
            size = other.size;
        }
    }

    /** The FACTS as KNOWN by n, the TRACKS of their NOONS and the states of these. */
    private static final class Tracks {
        final Text text;
        final Facts facts;
        int known = NONE;
        final boolean[] annulled = new boolean[FACT_LIMIT];
        // NOONS of all TRACKS by SHIP, YEAR, DAY, and these three as one number
        final int[] noons = new int[FACT_LIMIT];
        final int[] keys = new int[FACT_LIMIT];
        int size;
        // by FACT: its state, and its index among the noons
        final int[] states = new int[FACT_LIMIT];
        final int[] indexes = new int[FACT_LIMIT];
        final int[] rightCells = new int[CELLS];
        final int[] tails = new int[YEARS];

        Tracks(Text text, Facts facts) {
            this.text = text;
            this.facts = facts;
        }

        /** To be called if LAND, MOVE or FACTS already there have changed. */
        void forget() {
            known = NONE;
        }

        void know(int n) {
            if (n == known || !isIn(n, FACT_LIMIT + 1)) {
                return;
            }
            known = n;
            size = 0;
            for (int i = 0; i < FACT_LIMIT; i++) {
                annulled[i] = false;
                states[i] = TRACKLESS;
                indexes[i] = NONE;
            }
            for (int i = 0; i < YEARS; i++) {
                tails[i] = 0;
            }
            for (int i = 0; i < n; i++) {
                annulBy(i);
            }
            for (int i = 0; i < n; i++) {
                if (isKnownOf(i, NOON)) {
                    insert(i);
                } else if (isKnownOf(i, TAILS)) {
                    countTails(i);
                }
            }
            for (int i = 0; i < size; i++) {
                int noon = noonOf(i);
                if (isIn(noon, FACT_LIMIT)) {
                    indexes[noon] = i;
                    states[noon] = judge(i);
                }
            }
        }

        private void annulBy(int fact) {
            int other = facts.get(fact, YEAR);
            if (facts.get(fact, TYPE) == VOID && isIn(other, FACT_LIMIT)) {
                annulled[other] = true;
            }
        }

        private void countTails(int fact) {
            int year = facts.get(fact, YEAR);
            if (isIn(year, YEARS)) {
                tails[year] += facts.get(fact, Y);
            }
        }

        private boolean isKnownOf(int fact, int type) {
            return isIn(fact, known) && isIn(fact, FACT_LIMIT) && !annulled[fact] && facts.get(fact, TYPE) == type;
        }

        private static int keyOf(int ship, int year, int day) {
            return (ship * YEARS + year) * DAYS + day;
        }

        // a NOON told later of the same DAY comes in the place of the one told ahead
        private void insert(int noon) {
            int key = keyOf(facts.get(noon, SHIP), facts.get(noon, YEAR), facts.get(noon, DAY));
            int at = firstFrom(key);
            if (at >= size || keys[at] != key) {
                if (size >= FACT_LIMIT) {
                    return;
                }
                for (int i = size; i > at; i--) {
                    noons[i] = noons[i - 1];
                    keys[i] = keys[i - 1];
                }
                size++;
            }
            noons[at] = noon;
            keys[at] = key;
        }

        /** The index of the first noon whose key is a given one or above. */
        private int firstFrom(int key) {
            int at = size;
            for (int i = size - 1; i >= 0 && i < FACT_LIMIT && keys[i] >= key; i--) {
                at = i;
            }
            return at;
        }

        private int noonOf(int index) {
            return isIn(index, size) && index < FACT_LIMIT ? noons[index] : NONE;
        }

        /** The noon of another index, if it is in the same TRACK. */
        private int inSameTrack(int index, int other) {
            if (noonOf(index) == NONE || noonOf(other) == NONE || keys[index] / DAYS != keys[other] / DAYS) {
                return NONE;
            }
            return noons[other];
        }

        private int judge(int index) {
            int noon = noonOf(index);
            int ahead = inSameTrack(index, index - 1);
            int behind = inSameTrack(index, index + 1);
            if (text.isLand(facts.get(noon, X), facts.get(noon, Y))) {
                return SLIPPED;
            }
            if (ahead == NONE || behind == NONE) {
                return GOOD;
            }
            boolean farFromBehind = !inReach(noon, behind);
            if (inReach(ahead, behind) && (farFromBehind || !inReach(ahead, noon))) {
                return SLIPPED;
            }
            return farFromBehind && isCopy(ahead, noon) ? COPIED : GOOD;
        }

        private boolean isCopy(int ahead, int noon) {
            return facts.get(ahead, DAY) + 1 == facts.get(noon, DAY)
                && placeOf(ahead) == placeOf(noon)
                && facts.get(ahead, KIND) == facts.get(noon, KIND)
                && facts.get(ahead, FAR) == facts.get(noon, FAR);
        }

        private int placeOf(int noon) {
            return ROWS * facts.get(noon, X) + facts.get(noon, Y);
        }

        private boolean inReach(int noon, int other) {
            return isCellInReach(placeOf(noon), noon, other);
        }

        /** If a cell on one noon's DAY is in REACH of another noon (of all, if there is none). */
        private boolean isCellInReach(int at, int noon, int other) {
            if (other == NONE) {
                return true;
            }
            int apart = Math.abs(at / ROWS - facts.get(other, X)) + Math.abs(at % ROWS - facts.get(other, Y));
            return apart <= text.move * Math.abs(facts.get(noon, DAY) - facts.get(other, DAY));
        }

        int lengthOf(int ship, int year) {
            return firstFrom(keyOf(ship, year, DAYS)) - firstFrom(keyOf(ship, year, 0));
        }

        int noonAt(int ship, int year, int i) {
            if (!isIn(i, lengthOf(ship, year))) {
                return NONE;
            }
            return noonOf(firstFrom(keyOf(ship, year, 0)) + i);
        }

        /** The noon of a SHIP on a DAY, NONE without. */
        int noonOn(int ship, int year, int day) {
            int key = keyOf(ship, year, day);
            int at = firstFrom(key);
            return noonOf(at) != NONE && keys[at] == key ? noons[at] : NONE;
        }

        int stateOf(int fact) {
            return isIn(fact, FACT_LIMIT) ? states[fact] : TRACKLESS;
        }

        /** The i-th of the NOONS in all TRACKS if it is GOOD, else NONE. */
        int goodAt(int i) {
            int noon = noonOf(i);
            return noon != NONE && stateOf(noon) == GOOD ? noon : NONE;
        }

        /** The same, if it is of a week and YEAR. */
        int goodOf(int i, int week, int year) {
            if (!isIn(i, size) || i >= FACT_LIMIT) {
                return NONE;
            }
            boolean isOfWeek = keys[i] % DAYS / WEEK_DAYS == week && keys[i] / DAYS % YEARS == year;
            return isOfWeek ? goodAt(i) : NONE;
        }

        int countSlips() {
            int slips = 0;
            for (int i = 0; i < size; i++) {
                slips += goodAt(i) == NONE ? 1 : 0;
            }
            return slips;
        }

        /** Lists the cells where a noon may be PUT RIGHT: how many. */
        int putRight(int noon) {
            int index = isIn(noon, FACT_LIMIT) ? indexes[noon] : NONE;
            if (index == NONE) {
                return NONE;
            }
            int ahead = inSameTrack(index, index - 1);
            int behind = inSameTrack(index, index + 1);
            int many = 0;
            for (int i = 0; i < CELLS; i++) {
                if (!text.land[i] && isCellInReach(i, noon, ahead) && isCellInReach(i, noon, behind)) {
                    rightCells[many] = i;
                    many++;
                }
            }
            return many;
        }

        int rightCellAt(int i) {
            return isIn(i, CELLS) ? rightCells[i] : NONE;
        }

        int tailsOf(int year) {
            return isIn(year, YEARS) ? tails[year] : 0;
        }

        boolean isPicture(int fact) {
            return isKnownOf(fact, PICTURE);
        }

        boolean hasPicture(int x, int week, int year) {
            for (int i = 0; i < known; i++) {
                boolean isThere = facts.get(i, YEAR) == year && facts.get(i, DAY) == week && facts.get(i, X) == x;
                if (isThere && isPicture(i)) {
                    return true;
                }
            }
            return false;
        }
    }

    /** SPANS, as the TRACKS are KNOWN: EDGE BY LOGS, FITTING NOISES, PICTURES JOINED. */
    private static final class Spans {
        final Text text;
        final Facts facts;
        final Tracks tracks;
        final Ice ice;
        // EDGE BY LOGS
        final int[] rows = new int[ROWS + 1];
        int many;
        int low;
        int high;
        int doubted;
        // FITTING
        final int[] noiseEdges = new int[NOISES * COLUMNS];
        final int[] fits = new int[NOISES];
        int fitted;
        int bestFit;
        // JOINED
        final int[] shifts = new int[2 * MOST_SHIFT + 1];
        int shift;
        int alike;
        int pictures;

        Spans(Text text, Facts facts, Tracks tracks, Ice ice) {
            this.text = text;
            this.facts = facts;
            this.tracks = tracks;
            this.ice = ice;
        }

        private boolean isHeard(int noon) {
            return noon != NONE && facts.get(noon, KIND) != SILENT;
        }

        /** The columns (bits) of which there are GOOD NOONS. */
        int columnsSeen(int week, int year) {
            int seen = 0;
            for (int i = 0; i < tracks.size; i++) {
                int noon = tracks.goodOf(i, week, year);
                if (noon != NONE) {
                    seen |= 1 << facts.get(noon, X);
                }
            }
            return seen;
        }

        private int lowOf(int noon, int slack) {
            int row = facts.get(noon, Y) + facts.leanOfShipOf(noon) - slack;
            switch (facts.get(noon, KIND)) {
                case FAST: return row;
                case SIGHTED: return row - facts.get(noon, FAR);
                case BESET: return row + 1;
                default: return 0;
            }
        }

        private int highOf(int noon, int slack) {
            int row = facts.get(noon, Y) + facts.leanOfShipOf(noon) + slack;
            switch (facts.get(noon, KIND)) {
                case FAST: return row;
                case SIGHTED: return row - facts.get(noon, FAR);
                case CLEAR: return row - text.sight - 1;
                default: return ROWS;
            }
        }

        /** EDGE BY LOGS of x, week, YEAR. */
        void tally(int x, int week, int year, int slack) {
            many = 0;
            for (int row = 0; row <= ROWS; row++) {
                rows[row] = 0;
            }
            for (int i = 0; i < tracks.size; i++) {
                int noon = tracks.goodOf(i, week, year);
                if (isHeard(noon) && facts.get(noon, X) == x) {
                    many++;
                    countRows(Math.max(0, lowOf(noon, slack)), Math.min(ROWS, highOf(noon, slack)));
                }
            }
            findMost();
        }

        private void countRows(int from, int to) {
            for (int row = from; row <= to; row++) {
                if (isIn(row, ROWS + 1)) {
                    rows[row]++;
                }
            }
        }

        private void findMost() {
            int most = 0;
            for (int row = 0; row <= ROWS; row++) {
                most = Math.max(most, rows[row]);
            }
            low = NONE;
            for (int row = 0; row <= ROWS; row++) {
                if (rows[row] == most) {
                    low = low == NONE ? row : low;
                    high = row;
                }
            }
            doubted = many - most;
        }

        /** If x, week, YEAR are SURE: its edge is low then (and high). */
        boolean isSure(int x, int week, int year) {
            tally(x, week, year, 0);
            return low == high;
        }

        /** The FITTING NOISES (bits) of a week and YEAR. */
        int fit(int week, int year, int slack) {
            lookAtEdges(week, year);
            fitted = 0;
            for (int i = 0; i < tracks.size; i++) {
                int noon = tracks.goodOf(i, week, year);
                if (isHeard(noon)) {
                    fitted++;
                    countFits(facts.get(noon, X), lowOf(noon, slack), highOf(noon, slack));
                }
            }
            bestFit = 0;
            for (int noise = 0; noise < NOISES; noise++) {
                bestFit = Math.max(bestFit, fits[noise]);
            }
            int noises = 0;
            for (int noise = 0; noise < NOISES; noise++) {
                noises |= fits[noise] == bestFit ? 1 << noise : 0;
            }
            return noises;
        }

        private void lookAtEdges(int week, int year) {
            for (int noise = 0; noise < NOISES; noise++) {
                fits[noise] = 0;
                ice.setMoment(week, year, noise);
                for (int x = 0; x < COLUMNS; x++) {
                    noiseEdges[COLUMNS * noise + x] = ice.edgeOf(x);
                }
            }
        }

        private void countFits(int x, int from, int to) {
            for (int noise = 0; noise < NOISES && isIn(x, COLUMNS); noise++) {
                int edge = noiseEdges[COLUMNS * noise + x];
                fits[noise] += from <= edge && edge <= to ? 1 : 0;
            }
        }

        /** If there are SPANS in the week fitted last, and the FITTING NOISES have all of them. */
        boolean fitAll() {
            return fitted > 0 && bestFit == fitted;
        }

        /** The greatest number of some NOISES (bits) that have one EDGE of x, in the week fitted last. */
        int mostAlike(int x, int noises) {
            for (int row = 0; row <= ROWS; row++) {
                rows[row] = 0;
            }
            int most = 0;
            for (int noise = 0; noise < NOISES && isIn(x, COLUMNS); noise++) {
                int edge = noiseEdges[COLUMNS * noise + x];
                if (has(noises, noise) && isIn(edge, ROWS + 1)) {
                    rows[edge]++;
                    most = Math.max(most, rows[edge]);
                }
            }
            return most;
        }

        /** JOINED, of the PICTURES among the first n FACTS. */
        void join(int n) {
            pictures = 0;
            for (int i = 0; i < shifts.length; i++) {
                shifts[i] = 0;
            }
            for (int i = 0; i < n; i++) {
                if (tracks.isPicture(i) && isSure(facts.get(i, X), facts.get(i, DAY), facts.get(i, YEAR))) {
                    pictures++;
                    countShift(facts.get(i, Y) - low);
                }
            }
            shift = 0;
            alike = shifts[MOST_SHIFT];
            for (int far = 1; far <= MOST_SHIFT; far++) {
                preferShift(-far);
                preferShift(far);
            }
        }

        private void countShift(int by) {
            if (isIn(by + MOST_SHIFT, shifts.length)) {
                shifts[by + MOST_SHIFT]++;
            }
        }

        private void preferShift(int by) {
            if (isIn(by + MOST_SHIFT, shifts.length) && shifts[by + MOST_SHIFT] > alike) {
                shift = by;
                alike = shifts[by + MOST_SHIFT];
            }
        }
    }

    /** TREND of x and week. */
    private static final class Trend {
        private static final int MOST_SURE = 7;
        private static final int SETS = 128;
        // BACK less FORTH lies in -21 .. 21
        private static final int MIDDLE = 21;
        private static final int LEADS_BACK = 43;

        final Spans spans;
        final int[] edges = new int[MOST_SURE];
        // by set of edges given to the first YEARS, and by BACK less FORTH among these: how many ways
        final int[] ways = new int[SETS * LEADS_BACK];
        int many;
        int backs;
        int forths;

        Trend(Spans spans) {
            this.spans = spans;
        }

        void gather(int x, int week) {
            many = 0;
            for (int year = 0; year < YEARS && many < MOST_SURE; year++) {
                if (spans.isSure(x, week, year)) {
                    edges[many] = spans.low;
                    many++;
                }
            }
            backs = 0;
            forths = 0;
            for (int i = 0; i < many && i < MOST_SURE; i++) {
                for (int j = 0; j < i; j++) {
                    backs += edges[i] < edges[j] ? 1 : 0;
                    forths += edges[i] > edges[j] ? 1 : 0;
                }
            }
        }

        /** How many of all ways have BACK less FORTH no less. Alike edges are still edges of their own. */
        int countWays() {
            int sets = 1 << Math.min(many, MOST_SURE);
            for (int i = 0; i < sets * LEADS_BACK && i < ways.length; i++) {
                ways[i] = 0;
            }
            ways[MIDDLE] = 1;
            for (int set = 0; set < sets; set++) {
                for (int i = 0; i < many; i++) {
                    if (!has(set, i)) {
                        give(set, i);
                    }
                }
            }
            int sum = 0;
            for (int by = Math.max(0, backs - forths + MIDDLE); by < LEADS_BACK; by++) {
                sum += waysAt(sets - 1, by);
            }
            return sum;
        }

        // the next YEAR gets the i-th edge, behind those that have the edges of the set
        private void give(int set, int i) {
            int gain = 0;
            for (int j = 0; j < many && j < MOST_SURE && isIn(i, MOST_SURE); j++) {
                if (has(set, j)) {
                    gain += edges[i] < edges[j] ? 1 : 0;
                    gain -= edges[i] > edges[j] ? 1 : 0;
                }
            }
            int more = set | 1 << i;
            for (int by = 0; by < LEADS_BACK; by++) {
                int index = more * LEADS_BACK + by + gain;
                if (isIn(by + gain, LEADS_BACK) && isIn(index, ways.length)) {
                    ways[index] += waysAt(set, by);
                }
            }
        }

        private int waysAt(int set, int by) {
            int index = set * LEADS_BACK + by;
            return isIn(index, ways.length) ? ways[index] : 0;
        }

        int countAll() {
            int all = 1;
            for (int i = 2; i <= many; i++) {
                all *= i;
            }
            return all;
        }
    }

    /** KEEPERS, and THE LEANS that fit them. */
    private static final class Keepers {
        private static final int GAPS = 4 * MOST_LEAN + 1;

        final Text text;
        final Facts facts;
        final Tracks tracks;
        int many;
        int sum;
        // of two SHIPS, by one's LEAN less the other's: the sum of what is left
        final int[] left = new int[KEPT_SHIPS * KEPT_SHIPS * GAPS];
        final int[] leans = new int[KEPT_SHIPS];

        Keepers(Text text, Facts facts, Tracks tracks) {
            this.text = text;
            this.facts = facts;
            this.tracks = tracks;
        }

        private boolean isSeen(int noon) {
            return noon != NONE && (facts.get(noon, KIND) == FAST || facts.get(noon, KIND) == SIGHTED);
        }

        private int edgeBy(int noon) {
            return facts.get(noon, Y) - facts.get(noon, FAR);
        }

        void meet(int a, int b) {
            many = 0;
            sum = 0;
            for (int i = 0; i < tracks.size; i++) {
                int noon = tracks.goodAt(i);
                if (isSeen(noon) && facts.get(noon, SHIP) == a) {
                    int other = tracks.noonOn(b, facts.get(noon, YEAR), facts.get(noon, DAY));
                    if (tracks.stateOf(other) == GOOD && isSeen(other) && areNear(noon, other)) {
                        many++;
                        int difference = edgeBy(noon) - edgeBy(other);
                        sum += difference;
                        countLeft(a, b, difference);
                    }
                }
            }
        }

        private boolean areNear(int noon, int other) {
            return facts.get(noon, X) == facts.get(other, X)
                && Math.abs(facts.get(noon, Y) - facts.get(other, Y)) <= text.sight;
        }

        private void countLeft(int a, int b, int difference) {
            for (int gap = 0; gap < GAPS && isIn(a, KEPT_SHIPS) && isIn(b, KEPT_SHIPS); gap++) {
                left[(KEPT_SHIPS * a + b) * GAPS + gap] += Math.abs(difference + gap - 2 * MOST_LEAN);
            }
        }

        int fittingLean(int ship) {
            for (int i = 0; i < left.length; i++) {
                left[i] = 0;
            }
            for (int a = 0; a < KEPT_SHIPS; a++) {
                for (int b = a + 1; b < KEPT_SHIPS; b++) {
                    meet(a, b);
                }
            }
            return leanAmongBest(ship);
        }

        private int leanAmongBest(int ship) {
            int choices = 2 * MOST_LEAN + 1;
            int best = NONE;
            int lean = 0;
            leans[0] = 0;
            for (int i = 0; i < choices * choices * choices; i++) {
                leans[1] = i / (choices * choices) - MOST_LEAN;
                leans[2] = i / choices % choices - MOST_LEAN;
                leans[3] = i % choices - MOST_LEAN;
                int all = allLeft();
                if (best == NONE || all < best) {
                    best = all;
                    lean = isIn(ship, KEPT_SHIPS) ? leans[ship] : 0;
                }
            }
            return lean;
        }

        private int allLeft() {
            int all = 0;
            for (int a = 0; a < KEPT_SHIPS; a++) {
                for (int b = a + 1; b < KEPT_SHIPS; b++) {
                    int index = (KEPT_SHIPS * a + b) * GAPS + leans[a] - leans[b] + 2 * MOST_LEAN;
                    all += isIn(index, left.length) ? left[index] : 0;
                }
            }
            return all;
        }
    }
}
