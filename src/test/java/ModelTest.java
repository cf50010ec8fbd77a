import java.util.ArrayList;
import java.util.Arrays;
import java.util.HashSet;
import java.util.List;
import java.util.Random;
import java.util.Set;
import java.util.TreeMap;
import java.util.TreeSet;

/**
 * Long runs of calls drawn from fixed seeds, each answer against a model that reads the document again in the
 * plainest way: trees instead of codes, all permutations, ships that go forward, nothing kept between calls.
 */
public final class ModelTest {
    private static final int RUNS = 400;
    private static int wrong = 0;

    public static void main(String[] args) {
        int runs = args.length > 0 ? Integer.parseInt(args[0]) : RUNS;
        int first = args.length > 1 ? Integer.parseInt(args[1]) : 0;
        for (int seed = first; seed < first + runs && wrong < 20; seed++) {
            new Run(seed).go();
        }
        System.out.println(wrong == 0 ? runs + " runs are as the model says" : wrong + " answers are not as the model's");
        if (wrong != 0) {
            System.exit(1);
        }
    }

    // ---- the model ----

    interface Expr {
        int of(int[] v);
    }

    interface Cond {
        boolean holds(int[] v);
    }

    static final class Fault extends RuntimeException {
        final int number;
        final int place;

        Fault(int number, int place) {
            this.number = number;
            this.place = place;
        }
    }

    static final class Text {
        final Set<Integer> land = new HashSet<>();
        Expr edge = v -> 5;
        Expr share = v -> 0;
        Expr whale = v -> 1;
        final List<Cond> leads = new ArrayList<>();
        final List<Expr> wants = new ArrayList<>();
        final List<String> names = new ArrayList<>();
        int sight = 2;
        int move = 1;
        int births = 0;
    }

    static final List<String> VARS =
        List.of("x", "y", "week", "year", "noise", "off", "whales", "ice", "price");
    static final Set<String> WORDS = new HashSet<>(List.of("land", "edge", "share", "whale", "lead", "if", "want",
        "sight", "move", "births", "or", "and", "not"));

    static final class Reader {
        final String s;
        final List<String> tokens = new ArrayList<>();
        final List<Integer> places = new ArrayList<>();
        final List<Fault> late = new ArrayList<>();
        final Text text = new Text();
        int at = 0;
        int lands = 0;

        Reader(String s) {
            this.s = s;
            int i = 0;
            while (i < s.length()) {
                char c = s.charAt(i);
                if (c == 9 || c == 10 || c == 13 || c == 32) {
                    i++;
                    continue;
                }
                int j = i + 1;
                if (c >= 'a' && c <= 'z') {
                    while (j < s.length() && s.charAt(j) >= 'a' && s.charAt(j) <= 'z') {
                        j++;
                    }
                } else if (c >= '0' && c <= '9') {
                    while (j < s.length() && s.charAt(j) >= '0' && s.charAt(j) <= '9') {
                        j++;
                    }
                } else if ("=!<".indexOf(c) >= 0 && j < s.length() && s.charAt(j) == '=') {
                    j++;
                }
                tokens.add(s.substring(i, j));
                places.add(i);
                i = j;
            }
            tokens.add("");
            places.add(s.length());
        }

        Text read() {
            while (!peek().equals("")) {
                tell();
            }
            Fault first = null;
            for (Fault f : late) {
                if (first == null || f.place < first.place || f.place == first.place && f.number < first.number) {
                    first = f;
                }
            }
            if (first != null) {
                throw first;
            }
            return text;
        }

        String peek() {
            return tokens.get(at);
        }

        int place() {
            return places.get(at);
        }

        Fault syntax() {
            return new Fault(1, place());
        }

        void pass() {
            if (at >= 400) {
                throw new Fault(2, place());
            }
            at++;
        }

        void pass(String token) {
            if (!peek().equals(token)) {
                throw syntax();
            }
            pass();
        }

        boolean isInt(String t) {
            return t.matches("[0-9]{1,4}");
        }

        boolean isName(String t) {
            return t.matches("[a-z]{1,8}") && !WORDS.contains(t) && !VARS.contains(t);
        }

        int passInt() {
            if (!isInt(peek())) {
                throw syntax();
            }
            int value = Integer.parseInt(peek());
            pass();
            return value;
        }

        void tell() {
            String word = peek();
            int start = place();
            switch (word) {
                case "land": {
                    if (++lands > 30) {
                        throw new Fault(2, start);
                    }
                    pass();
                    int xp = place();
                    int x = passInt();
                    int yp = place();
                    int y = passInt();
                    pass(";");
                    if (x > 9) {
                        late.add(new Fault(5, xp));
                    }
                    if (y > 11) {
                        late.add(new Fault(5, yp));
                    }
                    if (x <= 9 && y <= 11 && !text.land.add(12 * x + y)) {
                        late.add(new Fault(3, yp));
                    }
                    break;
                }
                case "edge":
                case "share":
                case "whale": {
                    pass();
                    pass("=");
                    Expr e = sum(0);
                    pass(";");
                    if (word.equals("edge")) {
                        text.edge = e;
                    } else if (word.equals("share")) {
                        text.share = e;
                    } else {
                        text.whale = e;
                    }
                    break;
                }
                case "lead": {
                    if (text.leads.size() == 4) {
                        throw new Fault(2, start);
                    }
                    pass();
                    pass("if");
                    text.leads.add(any());
                    pass(";");
                    break;
                }
                case "want": {
                    if (text.wants.size() == 4) {
                        throw new Fault(2, start);
                    }
                    pass();
                    String name = peek();
                    if (!isName(name)) {
                        throw syntax();
                    }
                    if (text.names.contains(name)) {
                        late.add(new Fault(3, place()));
                    }
                    text.names.add(name);
                    pass();
                    pass("=");
                    text.wants.add(sum(0));
                    pass(";");
                    break;
                }
                case "sight":
                case "move":
                case "births": {
                    pass();
                    int p = place();
                    int value = passInt();
                    pass(";");
                    boolean bad = word.equals("sight") ? value > 5 : word.equals("move") ? value < 1 || value > 3 : value > 100;
                    if (bad) {
                        late.add(new Fault(5, p));
                    }
                    if (word.equals("sight")) {
                        text.sight = value;
                    } else if (word.equals("move")) {
                        text.move = value;
                    } else {
                        text.births = value;
                    }
                    break;
                }
                default:
                    throw syntax();
            }
        }

        Cond any() {
            Cond one = all();
            while (peek().equals("or")) {
                pass();
                Cond left = one;
                Cond right = all();
                one = v -> left.holds(v) | right.holds(v);
            }
            return one;
        }

        Cond all() {
            Cond one = lit();
            while (peek().equals("and")) {
                pass();
                Cond left = one;
                Cond right = lit();
                one = v -> left.holds(v) & right.holds(v);
            }
            return one;
        }

        Cond lit() {
            if (peek().equals("not")) {
                pass();
                Cond inner = lit();
                return v -> !inner.holds(v);
            }
            Expr left = sum(0);
            String sign = peek();
            if (!List.of("==", "!=", "<", "<=").contains(sign)) {
                throw syntax();
            }
            pass();
            Expr right = sum(0);
            return v -> {
                try {
                    int a = left.of(v);
                    int b = right.of(v);
                    return sign.equals("==") ? a == b : sign.equals("!=") ? a != b : sign.equals("<") ? a < b : a <= b;
                } catch (ArithmeticException divided) {
                    return false;
                }
            };
        }

        Expr sum(int open) {
            Expr one = part(open);
            while (peek().equals("+") || peek().equals("-")) {
                boolean plus = peek().equals("+");
                pass();
                Expr left = one;
                Expr right = part(open);
                one = v -> plus ? left.of(v) + right.of(v) : left.of(v) - right.of(v);
            }
            return one;
        }

        Expr part(int open) {
            Expr one = unit(open);
            while (peek().equals("*") || peek().equals("/")) {
                boolean times = peek().equals("*");
                pass();
                Expr left = one;
                Expr right = unit(open);
                one = v -> times ? left.of(v) * right.of(v) : left.of(v) / right.of(v);
            }
            return one;
        }

        Expr unit(int open) {
            String t = peek();
            if (isInt(t)) {
                int value = Integer.parseInt(t);
                pass();
                return v -> value;
            }
            if (VARS.contains(t)) {
                int i = VARS.indexOf(t);
                pass();
                return v -> v[i];
            }
            if (t.equals("(")) {
                if (open == 6) {
                    throw new Fault(2, place());
                }
                pass();
                Expr inner = sum(open + 1);
                pass(")");
                return inner;
            }
            throw syntax();
        }
    }

    static final class Model {
        final StringBuilder tape = new StringBuilder();
        Text t = new Text();
        int place = -1;
        List<int[]> facts = new ArrayList<>();
        int[] leans = new int[6];
        final List<List<int[]>> heldFacts = new ArrayList<>(Arrays.asList(null, null, null));
        final int[][] heldLeans = new int[3][];

        // -- text
        int feed(int[] w) {
            if (tape.length() + 20 > 2000) {
                return -1;
            }
            for (int word : w) {
                for (int i = 3; i >= 0; i--) {
                    tape.append((char) (word >>> 8 * i & 255));
                }
            }
            return tape.length();
        }

        int back(int n) {
            if (n < 0 || n > tape.length()) {
                return -1;
            }
            tape.setLength(tape.length() - n);
            return tape.length();
        }

        int read() {
            String s = tape.toString();
            tape.setLength(0);
            try {
                t = new Reader(s).read();
                place = -1;
                return 0;
            } catch (Fault f) {
                place = f.place;
                return f.number;
            }
        }

        // -- ice
        static int hold(int v, int a, int b) {
            return v < a ? a : v > b ? b : v;
        }

        static int law(Expr e, int... v) {
            try {
                return e.of(Arrays.copyOf(v, 9));
            } catch (ArithmeticException divided) {
                return 0;
            }
        }

        int edge(int x, int week, int year, int noise) {
            return hold(law(t.edge, x, 0, week, year, noise), 0, 12);
        }

        int kind(int x, int y, int week, int year, int noise) {
            int off = y - edge(x, week, year, noise);
            if (t.land.contains(12 * x + y)) {
                return 2;
            }
            if (off >= 0) {
                return 0;
            }
            for (Cond c : t.leads) {
                if (c.holds(new int[] {x, y, week, year, noise, off, 0, 0, 0})) {
                    return 3;
                }
            }
            return 1;
        }

        int share(int x, int y, int week, int year, int noise) {
            return t.land.contains(12 * x + y) ? 0
                : hold(law(t.share, x, y, week, year, noise, y - edge(x, week, year, noise)), 0, 10);
        }

        int whales(int x, int y, int week, int year, int noise) {
            return t.land.contains(12 * x + y) ? 0
                : hold(law(t.whale, x, y, week, year, noise, y - edge(x, week, year, noise)), 0, 99);
        }

        static final int[] DX = {0, 0, 1, 0, -1};
        static final int[] DY = {0, -1, 0, 1, 0};

        int iceBeside(int x, int y, int week, int year, int noise) {
            int n = 0;
            for (int s = 1; s < 5; s++) {
                int a = x + DX[s];
                int b = y + DY[s];
                if (a >= 0 && a < 10 && b >= 0 && b < 12 && kind(a, b, week, year, noise) == 1) {
                    n++;
                }
            }
            return n;
        }

        int day(int want, int at, int week, int year, int noise, int price) {
            for (int m = 0; m < t.move; m++) {
                int best = -1;
                int bestSays = 0;
                for (int s = 0; s < 5; s++) {
                    int x = at / 12 + DX[s];
                    int y = at % 12 + DY[s];
                    if (x < 0 || x > 9 || y < 0 || y > 11) {
                        continue;
                    }
                    int k = kind(x, y, week, year, noise);
                    if (k == 1 || k == 2) {
                        continue;
                    }
                    int says = law(t.wants.get(want), x, y, week, year, noise, y - edge(x, week, year, noise),
                        whales(x, y, week, year, noise), iceBeside(x, y, week, year, noise), price);
                    if (best < 0 || says > bestSays) {
                        best = 12 * x + y;
                        bestSays = says;
                    }
                }
                at = best < 0 ? at : best;
            }
            return at;
        }

        static int lot(int seed, int which, int n) {
            int h = seed;
            for (int it : new int[] {12, which}) {
                h = (h ^ it) * 1103515245 + 12345;
                h = h ^ (h >>> 15);
            }
            return (h >>> 1) % n;
        }

        int voyage(int ship, int want, int cell, int week, int year, int noise, int price, int d, int seed) {
            List<int[]> noons = new ArrayList<>();
            int at = cell;
            for (int i = 0; i < d; i++) {
                int day = 7 * week + i;
                int w = day / 7;
                if (w > 15) {
                    break;
                }
                at = day(want, at, w, year, noise, price);
                int x = at / 12;
                int y = at % 12;
                int off = y - edge(x, w, year, noise);
                int kind;
                if (kind(x, y, w, year, noise) == 1) {
                    kind = 2;
                } else if (iceBeside(x, y, w, year, noise) > 0) {
                    kind = 0;
                } else if (off >= 1 && off <= t.sight) {
                    kind = 1;
                } else {
                    kind = lot(seed, 5 * i, 2) == 0 ? 3 : 4;
                }
                if (lot(seed, 5 * i + 1, 12) == 0) {
                    x = hold(x + lot(seed, 5 * i + 2, 7) - 3, 0, 9);
                    y = hold(y + lot(seed, 5 * i + 3, 7) - 3, 0, 11);
                }
                noons.add(new int[] {0, year, day, x, y, kind, kind == 1 ? off : 0, ship});
            }
            if (facts.size() + noons.size() > 120) {
                return -1;
            }
            facts.addAll(noons);
            return noons.size();
        }

        // -- facts: -1 stands for what a FACT has not
        int add(int... f) {
            if (facts.size() >= 120) {
                return -1;
            }
            facts.add(f);
            return facts.size() - 1;
        }

        boolean alive(int f, int n) {
            for (int i = 0; i < n; i++) {
                if (facts.get(i)[0] == 3 && facts.get(i)[1] == f) {
                    return false;
                }
            }
            return f < n;
        }

        List<Integer> track(int ship, int year, int n) {
            TreeMap<Integer, Integer> byDay = new TreeMap<>();
            for (int f = 0; f < n; f++) {
                int[] a = facts.get(f);
                if (a[0] == 0 && a[7] == ship && a[1] == year && alive(f, n)) {
                    byDay.put(a[2], f);
                }
            }
            return new ArrayList<>(byDay.values());
        }

        boolean reach(int dx, int dy, int days) {
            return Math.abs(dx) + Math.abs(dy) <= t.move * Math.abs(days);
        }

        boolean reach(int f, int g) {
            int[] a = facts.get(f);
            int[] b = facts.get(g);
            return reach(a[3] - b[3], a[4] - b[4], a[2] - b[2]);
        }

        int state(int f, int n) {
            int[] a = facts.get(f);
            if (a[0] != 0) {
                return 3;
            }
            List<Integer> tr = track(a[7], a[1], n);
            int i = tr.indexOf(f);
            if (i < 0) {
                return 3;
            }
            if (t.land.contains(12 * a[3] + a[4])) {
                return 1;
            }
            if (i == 0 || i == tr.size() - 1) {
                return 0;
            }
            int p = tr.get(i - 1);
            int q = tr.get(i + 1);
            if (reach(p, q) && !(reach(p, f) && reach(f, q))) {
                return 1;
            }
            int[] b = facts.get(p);
            boolean same = b[2] == a[2] - 1 && b[3] == a[3] && b[4] == a[4] && b[5] == a[5] && b[6] == a[6];
            return same && !reach(f, q) ? 2 : 0;
        }

        List<Integer> good(int n) {
            List<Integer> list = new ArrayList<>();
            for (int f = 0; f < n; f++) {
                if (state(f, n) == 0) {
                    list.add(f);
                }
            }
            return list;
        }

        int slips(int n) {
            int s = 0;
            for (int f = 0; f < n; f++) {
                int st = state(f, n);
                s += st == 1 || st == 2 ? 1 : 0;
            }
            return s;
        }

        List<Integer> right(int f, int n) {
            int[] a = facts.get(f);
            List<Integer> tr = a[0] == 0 ? track(a[7], a[1], n) : List.of();
            int i = tr.indexOf(f);
            if (i < 0) {
                return null;
            }
            List<Integer> cells = new ArrayList<>();
            for (int c = 0; c < 120; c++) {
                boolean ok = !t.land.contains(c);
                for (int j : new int[] {i - 1, i + 1}) {
                    if (j >= 0 && j < tr.size()) {
                        int[] b = facts.get(tr.get(j));
                        ok &= reach(c / 12 - b[3], c % 12 - b[4], a[2] - b[2]);
                    }
                }
                if (ok) {
                    cells.add(c);
                }
            }
            return cells;
        }

        // -- spans: {x, from, to}
        List<int[]> spans(int week, int year, int slack, int n) {
            List<int[]> list = new ArrayList<>();
            for (int f : good(n)) {
                int[] a = facts.get(f);
                if (a[1] != year || a[2] / 7 != week || a[5] == 4) {
                    continue;
                }
                int l = leans[a[7]];
                int y = a[4];
                int from;
                int to;
                switch (a[5]) {
                    case 0: from = to = y + l; break;
                    case 1: from = to = y - a[6] + l; break;
                    case 2: from = y + 1 + l; to = 99; break;
                    default: from = -99; to = y - t.sight - 1 + l;
                }
                list.add(new int[] {a[3], from - slack, to + slack});
            }
            return list;
        }

        int[] span(int x, int week, int year, int slack, int n) {
            int many = 0;
            int[] rows = new int[13];
            for (int[] s : spans(week, year, slack, n)) {
                if (s[0] == x) {
                    many++;
                    for (int r = 0; r < 13; r++) {
                        rows[r] += s[1] <= r && r <= s[2] ? 1 : 0;
                    }
                }
            }
            int most = Arrays.stream(rows).max().getAsInt();
            if (many == 0) {
                return new int[] {0, 12, 0, 0};
            }
            if (most == 0) {
                return new int[] {0, 12, many, many};
            }
            int low = 0;
            while (rows[low] != most) {
                low++;
            }
            int high = 12;
            while (rows[high] != most) {
                high--;
            }
            return new int[] {low, high, many - most, many};
        }

        int[] fits(int week, int year, int slack, int n) {
            int[] fits = new int[11];
            for (int[] s : spans(week, year, slack, n)) {
                fits[10]++;
                for (int noise = 0; noise < 10; noise++) {
                    int e = edge(s[0], week, year, noise);
                    fits[noise] += s[1] <= e && e <= s[2] ? 1 : 0;
                }
            }
            return fits;
        }

        int fitting(int week, int year, int slack, int n) {
            int[] fits = fits(week, year, slack, n);
            int best = Arrays.stream(fits, 0, 10).max().getAsInt();
            int bits = 0;
            for (int noise = 0; noise < 10; noise++) {
                bits += fits[noise] == best ? 1 << noise : 0;
            }
            return bits;
        }

        int odds(int x, int y, int week, int year, int slack, int n) {
            int bits = fitting(week, year, slack, n);
            int icy = 0;
            for (int noise = 0; noise < 10; noise++) {
                icy += (bits >> noise & 1) == 1 && kind(x, y, week, year, noise) == 1 ? 1 : 0;
            }
            return 100 * icy + Integer.bitCount(bits);
        }

        List<Integer> keepers(int a, int b, int n) {
            List<Integer> differences = new ArrayList<>();
            List<Integer> good = good(n);
            for (int f : good) {
                for (int g : good) {
                    int[] p = facts.get(f);
                    int[] q = facts.get(g);
                    if (p[7] == a && q[7] == b && p[1] == q[1] && p[2] == q[2] && p[3] == q[3] && p[5] <= 1 && q[5] <= 1
                        && Math.abs(p[4] - q[4]) <= t.sight) {
                        differences.add(p[4] - p[6] - (q[4] - q[6]));
                    }
                }
            }
            return differences;
        }

        int leanOf(int ship, int n) {
            int best = Integer.MAX_VALUE;
            int answer = 0;
            List<List<Integer>> all = new ArrayList<>();
            for (int i = 0; i < 16; i++) {
                all.add(i / 4 < i % 4 ? keepers(i / 4, i % 4, n) : List.of());
            }
            for (int a = -2; a <= 2; a++) {
                for (int b = -2; b <= 2; b++) {
                    for (int c = -2; c <= 2; c++) {
                        int[] l = {0, a, b, c};
                        int left = 0;
                        for (int i = 0; i < 16; i++) {
                            for (int d : all.get(i)) {
                                left += Math.abs(d + l[i / 4] - l[i % 4]);
                            }
                        }
                        if (left < best) {
                            best = left;
                            answer = l[ship];
                        }
                    }
                }
            }
            return answer;
        }

        int[] trend(int x, int week, int n) {
            List<Integer> e = new ArrayList<>();
            for (int year = 0; year < 40 && e.size() < 7; year++) {
                int[] s = span(x, week, year, 0, n);
                if (s[0] == s[1]) {
                    e.add(s[0]);
                }
            }
            int[] all = new int[2];
            permute(e, 0, balance(e), all);
            int back = 0;
            int forth = 0;
            for (int i = 0; i < e.size(); i++) {
                for (int j = i + 1; j < e.size(); j++) {
                    back += e.get(j) < e.get(i) ? 1 : 0;
                    forth += e.get(j) > e.get(i) ? 1 : 0;
                }
            }
            return new int[] {e.size(), back, forth, all[0], all[1]};
        }

        static int balance(List<Integer> e) {
            int sum = 0;
            for (int i = 0; i < e.size(); i++) {
                for (int j = i + 1; j < e.size(); j++) {
                    sum += Integer.signum(e.get(i) - e.get(j));
                }
            }
            return sum;
        }

        static void permute(List<Integer> e, int from, int need, int[] all) {
            if (from == e.size()) {
                all[1]++;
                all[0] += balance(e) >= need ? 1 : 0;
                return;
            }
            List<Integer> p = new ArrayList<>(e);
            for (int i = from; i < p.size(); i++) {
                java.util.Collections.swap(p, from, i);
                permute(p, from + 1, need, all);
                java.util.Collections.swap(p, from, i);
            }
        }

        int nowhere(int year, int n) {
            Set<Integer> seen = new TreeSet<>();
            for (int f : good(n)) {
                if (facts.get(f)[1] == year) {
                    seen.add(facts.get(f)[3] * 16 + facts.get(f)[2] / 7);
                }
            }
            return 160 - seen.size();
        }

        int next(int week, int year, int slack, int n) {
            int bits = fitting(week, year, slack, n);
            int best = 99;
            int answer = -1;
            for (int x = 0; x < 10; x++) {
                int[] rows = new int[13];
                for (int noise = 0; noise < 10; noise++) {
                    rows[edge(x, week, year, noise)] += bits >> noise & 1;
                }
                int most = Arrays.stream(rows).max().getAsInt();
                if (most < best) {
                    best = most;
                    answer = x;
                }
            }
            return answer;
        }

        // -- out: the cells where a ship can be, week by week
        boolean out(int cell, int week, int year, int noise) {
            Set<Integer> here = new HashSet<>(Set.of(cell));
            for (int w = week; w < 16; w++) {
                boolean[] water = new boolean[120];
                for (int c = 0; c < 120; c++) {
                    int k = kind(c / 12, c % 12, w, year, noise);
                    water[c] = k == 0 || k == 3;
                }
                here.removeIf(c -> !water[c]);
                for (int step = 0; step < 7 * t.move; step++) {
                    Set<Integer> more = new HashSet<>(here);
                    for (int c : here) {
                        for (int s = 1; s < 5; s++) {
                            int x = c / 12 + DX[s];
                            int y = c % 12 + DY[s];
                            if (x >= 0 && x < 10 && y >= 0 && y < 12 && water[12 * x + y]) {
                                more.add(12 * x + y);
                            }
                        }
                    }
                    if (more.size() == here.size()) {
                        break;
                    }
                    here = more;
                }
                for (int c : here) {
                    if (c % 12 == 11) {
                        return true;
                    }
                }
            }
            return false;
        }

        int surely(int cell, int year, int bits) {
            for (int w = 15; w >= 0; w--) {
                boolean all = true;
                for (int noise = 0; noise < 10 && all; noise++) {
                    all = (bits >> noise & 1) == 0 || out(cell, w, year, noise);
                }
                if (all) {
                    return w;
                }
            }
            return -2;
        }

        int eye(int x, int week, int year, int noise, int least) {
            int row = 0;
            for (int y = 0; y < 12; y++) {
                row = share(x, y, week, year, noise) >= least ? y + 1 : row;
            }
            return row;
        }

        int wanted(int want, int week, int year, int noise, int price) {
            int mean = 0;
            for (int x = 0; x < 10; x++) {
                mean += edge(x, week, year, noise);
            }
            int sum = 0;
            for (int x = 0; x < 10; x++) {
                int at = -1;
                for (int y = 0; y < 12; y++) {
                    at = kind(x, y, week, year, noise) == 0 ? 12 * x + y : at;
                }
                for (int d = 0; d < 7 && at >= 0; d++) {
                    at = day(want, at, week, year, noise, price);
                    sum += 10 * edge(at / 12, week, year, noise) - mean;
                }
            }
            return sum;
        }

        int[] joined(int n) {
            int[] count = new int[11];
            int many = 0;
            for (int f = 0; f < n; f++) {
                int[] a = facts.get(f);
                if (a[0] == 1 && alive(f, n)) {
                    int[] s = span(a[3], a[2], a[1], 0, n);
                    if (s[0] == s[1]) {
                        many++;
                        if (Math.abs(a[4] - s[0]) <= 5) {
                            count[a[4] - s[0] + 5]++;
                        }
                    }
                }
            }
            int shift = 0;
            for (int c : new int[] {-1, 1, -2, 2, -3, 3, -4, 4, -5, 5}) {
                shift = count[c + 5] > count[shift + 5] ? c : shift;
            }
            return new int[] {shift, count[shift + 5], many};
        }

        int caught(int year, int n) {
            int sum = 0;
            for (int f = 0; f < n; f++) {
                sum += facts.get(f)[0] == 2 && facts.get(f)[1] == year && alive(f, n) ? facts.get(f)[4] : 0;
            }
            return sum;
        }

        int stock(int s, int[] taken, int year) {
            for (int i = 0; i <= year; i++) {
                s -= taken[i];
                if (s < 0) {
                    return -2;
                }
                s = Math.min(999, s + s * t.births / 100);
            }
            return s;
        }

        int[] taken(int n) {
            int[] taken = new int[40];
            for (int i = 0; i < 40; i++) {
                taken[i] = caught(i, n);
            }
            return taken;
        }

        int least(int year, int n) {
            int[] taken = taken(n);
            for (int s = 0; s < 1000; s++) {
                if (stock(s, taken, year) != -2) {
                    return s;
                }
            }
            return -2;
        }

        int say(int x, int week, int year, int n) {
            int bits = 0;
            for (int f : good(n)) {
                int[] a = facts.get(f);
                bits |= a[3] == x && a[1] == year && a[2] / 7 == week ? 1 : 0;
            }
            int[] s = span(x, week, year, 0, n);
            bits |= s[0] == s[1] ? 2 : 0;
            bits |= s[2] == 0 ? 4 : 0;
            int[] fits = fits(week, year, 0, n);
            int noises = fitting(week, year, 0, n);
            bits |= fits[10] > 0 && fits[Integer.numberOfTrailingZeros(noises)] == fits[10] && Integer.bitCount(noises) <= 3 ? 8 : 0;
            int[] tr = trend(x, week, n);
            bits |= 20 * tr[3] <= tr[4] ? 16 : 0;
            for (int f = 0; f < n; f++) {
                int[] a = facts.get(f);
                bits |= a[0] == 1 && a[1] == year && a[2] == week && a[3] == x && alive(f, n) ? 32 : 0;
            }
            return bits;
        }
    }

    // ---- a run of calls on one object and on the model ----

    static final class Run {
        final int seed;
        final Random random;
        final IceLogs logs = new IceLogs();
        final Model m = new Model();
        String last = "";

        Run(int seed) {
            this.seed = seed;
            this.random = new Random(seed * 7919L + 17);
        }

        void go() {
            int calls = 60 + random.nextInt(200);
            for (int i = 0; i < calls && wrong < 20; i++) {
                try {
                    if (i == 0 || random.nextInt(40) == 0) {
                        tell();
                    }
                    if (random.nextInt(3) == 0) {
                        write();
                    } else {
                        ask();
                    }
                } catch (RuntimeException thrown) {
                    wrong++;
                    System.out.println("seed " + seed + " behind " + last + ": " + thrown);
                    thrown.printStackTrace(System.out);
                }
            }
        }

        void due(String call, int got, int want, int... args) {
            last = call + Arrays.toString(args);
            if (got != want) {
                wrong++;
                System.out.println("seed " + seed + ": " + last + " answered " + got + ", the model says " + want);
            }
        }

        /** Of 0 .. many - 1, now and then of what lies outside. */
        int draw(int many) {
            int luck = random.nextInt(120);
            if (luck == 0) {
                return -1 - random.nextInt(3);
            }
            if (luck == 1) {
                return many + random.nextInt(3);
            }
            if (luck == 2) {
                return random.nextInt(2) == 0 ? Integer.MIN_VALUE : Integer.MAX_VALUE;
            }
            return many <= 0 ? 0 : random.nextInt(many);
        }

        // runs keep to few years, weeks and columns, so that facts meet
        int year() {
            return random.nextInt(6) > 0 ? random.nextInt(random.nextBoolean() ? 2 : 9) : draw(40);
        }

        int week() {
            return random.nextInt(5) > 0 ? 3 + random.nextInt(2) : draw(16);
        }

        int x() {
            return random.nextInt(4) > 0 ? 2 + random.nextInt(3) : draw(10);
        }

        int n() {
            return random.nextInt(3) > 0 ? m.facts.size() : draw(m.facts.size() + 1);
        }

        static boolean in(int v, int many) {
            return v >= 0 && v < many;
        }

        boolean known(int n) {
            return in(n, m.facts.size() + 1);
        }

        // -- texts
        void tell() {
            String s = text();
            while (s.length() > 0 && s.length() <= 2000) {
                String block = s.substring(0, Math.min(20, s.length()));
                s = s.substring(block.length());
                int pad = 20 - block.length();
                char[] bytes = Arrays.copyOf(block.toCharArray(), 20);
                int[] w = new int[5];
                for (int i = 0; i < 20; i++) {
                    w[i / 4] = w[i / 4] << 8 | bytes[i] & 255;
                }
                due("feed", logs.feed(w[0], w[1], w[2], w[3], w[4]), m.feed(w), w);
                due("back", logs.back(pad), m.back(pad), pad);
            }
            if (random.nextInt(30) == 0) {
                int n = draw(m.tape.length() + 1);
                due("back", logs.back(n), m.back(n), n);
            }
            due("count", logs.count(4), m.tape.length(), 4);
            String told = m.tape.toString();
            int want = m.read();
            int got = logs.read();
            due("read", got, want);
            due("place", logs.place(), m.place);
            if (got != want || logs.place() != m.place) {
                System.out.println(told);
            }
        }

        String text() {
            StringBuilder s = new StringBuilder();
            int tells = random.nextInt(14);
            int burst = random.nextInt(25);
            for (int i = 0; i < tells; i++) {
                s.append(tellOne()).append(random.nextInt(4) == 0 ? " \n" : "");
            }
            if (burst == 0) {
                for (int i = 0; i < 33; i++) {
                    s.append("land ").append(i % 10).append(' ').append(i % 12).append(';');
                }
            } else if (burst == 1) {
                s.append("edge=1").append("+x*1".repeat(90 + random.nextInt(15))).append(";");
            } else if (burst == 2) {
                int open = 5 + random.nextInt(3);
                s.append("share=").append("(".repeat(open)).append("off").append(")".repeat(open)).append(";");
            } else if (burst == 3) {
                s.append("lead if ").append("not ".repeat(random.nextInt(380))).append("x<4;");
            }
            int faults = random.nextInt(4) == 0 ? 1 + random.nextInt(2) : 0;
            for (int i = 0; i < faults && s.length() > 0; i++) {
                int at = random.nextInt(s.length());
                switch (random.nextInt(4)) {
                    case 0: s.deleteCharAt(at); break;
                    case 1: s.setLength(at); break;
                    case 2: s.insert(at, "=!<;()+x0 9a\t\r#Z\u00e9".charAt(random.nextInt(17))); break;
                    default: s.insert(at, word());
                }
            }
            return s.length() > 2000 ? s.substring(0, 2000) : s.toString();
        }

        String word() {
            String[] words = {"land", "edge", "share", "whale", "lead", "if", "want", "sight", "move", "births", "or", "and",
                "not", "x", "y", "week", "==", "<=", "!=", "12345", "1234", "abcdefgh", "abcdefghi", "landx", ";", "("};
            return " ".repeat(random.nextInt(2)) + words[random.nextInt(words.length)] + " ".repeat(random.nextInt(2));
        }

        String tellOne() {
            switch (random.nextInt(12)) {
                case 0: case 1: case 2:
                    return "land " + small(10) + " " + small(12) + ";";
                case 3: case 4:
                    return "edge=" + (random.nextBoolean() ? edgeLaw() : sum(0)) + ";";
                case 5: return "share = " + sum(0) + ";";
                case 6: return "whale = " + sum(0) + ";";
                case 7: return "lead if " + cond() + ";";
                case 8: case 9: return "want " + name() + "=" + sum(0) + ";";
                case 10: return "sight " + small(6) + ";move " + (1 + small(3)) + ";";
                default: return "births " + small(101) + ";";
            }
        }

        String edgeLaw() {
            String[] laws = {"4+noise/3+x/3", "noise", "5+(x+week)/4-year", "3+noise/2", "x", "(noise+x*3)/4", "12-noise/3", "5"};
            return laws[random.nextInt(laws.length)];
        }

        int small(int many) {
            return random.nextInt(60) == 0 ? many + random.nextInt(3) : random.nextInt(many);
        }

        String name() {
            return "" + (char) ('a' + random.nextInt(9)) + (random.nextInt(3) == 0 ? "b" : "");
        }

        String sum(int deep) {
            StringBuilder s = new StringBuilder(part(deep));
            for (int i = random.nextInt(3); i > 0; i--) {
                s.append(random.nextBoolean() ? "+" : "-").append(part(deep));
            }
            return s.toString();
        }

        String part(int deep) {
            StringBuilder s = new StringBuilder(unit(deep));
            for (int i = random.nextInt(5) - 2; i > 0; i--) {
                s.append(random.nextInt(3) > 0 ? "*" : "/").append(unit(deep));
            }
            return s.toString();
        }

        String unit(int deep) {
            int kind = random.nextInt(deep < 3 ? 7 : 5);
            if (kind < 2) {
                return "" + (random.nextInt(8) == 0 ? random.nextInt(10000) : random.nextInt(13));
            }
            return kind < 5 ? VARS.get(random.nextInt(9)) : "(" + sum(deep + 1) + ")";
        }

        String cond() {
            StringBuilder s = new StringBuilder(lit());
            for (int i = random.nextInt(3); i > 0; i--) {
                s.append(random.nextBoolean() ? " and " : " or ").append(lit());
            }
            return s.toString();
        }

        String lit() {
            String[] signs = {"==", "!=", "<", "<="};
            return "not ".repeat(random.nextInt(3) == 0 ? 1 + random.nextInt(2) : 0) + sum(1) + signs[random.nextInt(4)] + sum(1);
        }

        // -- calls that tell
        void write() {
            switch (random.nextInt(14)) {
                case 0: case 1: case 2: voyage(); break;
                case 3: case 4: case 5: noons(); break;
                case 6: case 7: noon(random.nextInt(6), year(), draw(112), x(), draw(12)); break;
                case 8: case 9: {
                    int year = year();
                    int week = week();
                    int x = x();
                    int row = draw(13);
                    boolean ok = in(year, 40) && in(week, 16) && in(x, 10) && in(row, 13);
                    due("picture", logs.picture(year, week, x, row), ok ? m.add(1, year, week, x, row, -1, -1, -1) : -1, year, week, x, row);
                    break;
                }
                case 10: {
                    int year = year();
                    int many = random.nextInt(3) == 0 ? draw(1000) : draw(40);
                    boolean ok = in(year, 40) && in(many, 1000);
                    due("tails", logs.tails(year, many), ok ? m.add(2, year, -1, -1, many, -1, -1, -1) : -1, year, many);
                    break;
                }
                case 11: {
                    int f = draw(m.facts.size());
                    boolean ok = in(f, m.facts.size()) && m.facts.get(f)[0] != 3;
                    due("annul", logs.annul(f), ok ? m.add(3, f, -1, -1, -1, -1, -1, -1) : -1, f);
                    break;
                }
                case 12: {
                    int ship = draw(6);
                    int lean = draw(5) - 2;
                    boolean ok = in(ship, 6) && lean >= -2 && lean <= 2;
                    if (ok) {
                        m.leans[ship] = lean;
                    }
                    due("lean", logs.lean(ship, lean) ? 1 : 0, ok ? 1 : 0, ship, lean);
                    break;
                }
                default: slots();
            }
        }

        void voyage() {
            int ship = draw(6);
            int want = draw(m.t.wants.size());
            int cell = draw(120);
            int week = week();
            int year = year();
            int noise = draw(10);
            int price = draw(100);
            int d = 1 + draw(random.nextInt(3) == 0 ? 30 : 12);
            int seed = random.nextInt();
            boolean ok = in(ship, 6) && in(want, m.t.wants.size()) && in(cell, 120) && in(week, 16) && in(year, 40)
                && in(noise, 10) && in(price, 100) && d >= 1 && d <= 30 && !m.t.land.contains(cell);
            due("voyage", logs.voyage(ship, want, cell, week, year, noise, price, d, seed),
                ok ? m.voyage(ship, want, cell, week, year, noise, price, d, seed) : -1,
                ship, want, cell, week, year, noise, price, d, seed);
        }

        // days that follow one another, places that mostly can be reached, some copied: what tracks are judged by
        void noons() {
            int ship = random.nextInt(4);
            int year = year();
            int day = random.nextInt(4) > 0 ? 21 + random.nextInt(12) : draw(112);
            int x = x();
            int y = draw(12);
            int many = 1 + random.nextInt(7);
            for (int i = 0; i < many; i++) {
                noon(ship, year, day, x, y);
                if (random.nextInt(6) == 0) {
                    again(day + 1);
                }
                day += random.nextInt(5) == 0 ? 2 : 1;
                x += random.nextInt(3) == 0 ? random.nextInt(3) - 1 : 0;
                y += random.nextInt(6) == 0 ? random.nextInt(5) - 2 : random.nextInt(3) - 1;
            }
        }

        void again(int day) {
            int[] f = m.facts.isEmpty() ? new int[8] : m.facts.get(m.facts.size() - 1);
            if (f[0] == 0 && in(day, 112)) {
                due("noon", logs.noon(f[7], f[1], day, f[3], f[4], f[5], f[6]), m.add(0, f[1], day, f[3], f[4], f[5], f[6], f[7]));
            }
        }

        void noon(int ship, int year, int day, int x, int y) {
            int kind = random.nextInt(2) == 0 ? random.nextInt(2) : draw(5);
            int far = random.nextInt(30) == 0 ? draw(7) : kind == 1 ? 1 + random.nextInt(5) : 0;
            boolean ok = in(ship, 6) && in(year, 40) && in(day, 112) && in(x, 10) && in(y, 12) && in(kind, 5)
                && (kind == 1 ? far >= 1 && far <= 5 : far == 0);
            due("noon", logs.noon(ship, year, day, x, y, kind, far), ok ? m.add(0, year, day, x, y, kind, far, ship) : -1,
                ship, year, day, x, y, kind, far);
        }

        void slots() {
            int slot = draw(3);
            if (random.nextInt(2) == 0) {
                if (in(slot, 3)) {
                    m.heldFacts.set(slot, new ArrayList<>(m.facts));
                    m.heldLeans[slot] = m.leans.clone();
                }
                due("hold", logs.hold(slot) ? 1 : 0, in(slot, 3) ? 1 : 0, slot);
            } else {
                boolean ok = in(slot, 3) && m.heldFacts.get(slot) != null;
                if (ok) {
                    m.facts = new ArrayList<>(m.heldFacts.get(slot));
                    m.leans = m.heldLeans[slot].clone();
                }
                due("again", logs.again(slot) ? 1 : 0, ok ? 1 : 0, slot);
            }
        }

        // -- calls that ask
        void ask() {
            switch (random.nextInt(3)) {
                case 0: askIce(); break;
                case 1: askFacts(); break;
                default: askEdges();
            }
        }

        void askIce() {
            int x = random.nextBoolean() ? draw(10) : x();
            int y = draw(12);
            int week = random.nextBoolean() ? draw(16) : week();
            int year = year();
            int noise = draw(10);
            int price = draw(100);
            int want = draw(m.t.wants.size());
            boolean moment = in(week, 16) && in(year, 40) && in(noise, 10);
            boolean cell = in(x, 10) && in(y, 12);
            switch (random.nextInt(8)) {
                case 0:
                    due("edge", logs.edge(x, week, year, noise), moment && in(x, 10) ? m.edge(x, week, year, noise) : -1, x, week, year, noise);
                    break;
                case 1: {
                    int what = draw(3);
                    int want1 = !moment || !cell ? -1 : what == 0 ? m.kind(x, y, week, year, noise)
                        : what == 1 ? m.share(x, y, week, year, noise) : what == 2 ? m.whales(x, y, week, year, noise) : -1;
                    due("cell", logs.cell(x, y, week, year, noise, what), want1, x, y, week, year, noise, what);
                    break;
                }
                case 2: {
                    int d = draw(8);
                    boolean ok = moment && cell && in(want, m.t.wants.size()) && in(price, 100) && in(d, 8) && !m.t.land.contains(12 * x + y);
                    int at = 12 * x + y;
                    for (int i = 0; i < d && ok; i++) {
                        at = m.day(want, at, week, year, noise, price);
                    }
                    due("go", logs.go(want, x, y, week, year, noise, price, d), ok ? at : -1, want, x, y, week, year, noise, price, d);
                    break;
                }
                case 3: {
                    int wants = moment && cell ? m.out(12 * x + y, week, year, noise) ? 1 : 0 : -1;
                    due("out", logs.out(x, y, week, year, noise), wants, x, y, week, year, noise);
                    break;
                }
                case 4: {
                    boolean ok = cell && in(year, 40) && in(noise, 10);
                    due("last", logs.last(x, y, year, noise), ok ? m.surely(12 * x + y, year, 1 << noise) : -1, x, y, year, noise);
                    break;
                }
                case 5: {
                    int least = draw(12);
                    boolean ok = moment && in(x, 10) && least >= 1 && least <= 10;
                    due("eye", logs.eye(x, week, year, noise, least), ok ? m.eye(x, week, year, noise, least) : -1, x, week, year, noise, least);
                    break;
                }
                case 6: {
                    boolean ok = moment && in(want, m.t.wants.size()) && in(price, 100);
                    due("wanted", logs.wanted(want, week, year, noise, price), ok ? m.wanted(want, week, year, noise, price) : -1000000,
                        want, week, year, noise, price);
                    break;
                }
                default: {
                    int what = draw(9);
                    int held = (int) m.heldFacts.stream().filter(f -> f != null).count();
                    int[] counts = {m.t.land.size(), m.t.leads.size(), m.t.wants.size(), m.facts.size(), m.tape.length(), m.t.sight,
                        m.t.move, m.t.births, held};
                    due("count", logs.count(what), in(what, 9) ? counts[what] : -1, what);
                }
            }
        }

        void askFacts() {
            int n = n();
            int f = draw(m.facts.size());
            int year = year();
            int ship = draw(6);
            int i = draw(6);
            boolean fact = in(f, m.facts.size());
            boolean ok = known(n);
            boolean okFact = ok && in(f, n);
            boolean okTrack = ok && in(ship, 6) && in(year, 40);
            switch (random.nextInt(9)) {
                case 0: {
                    int what = draw(8);
                    due("fact", logs.fact(f, what), fact && in(what, 8) ? m.facts.get(f)[what] : -1, f, what);
                    break;
                }
                case 1:
                    due("track", logs.track(ship, year, n), okTrack ? m.track(ship, year, n).size() : -1, ship, year, n);
                    break;
                case 2: {
                    List<Integer> track = okTrack ? m.track(ship, year, n) : List.of();
                    due("trackAt", logs.trackAt(ship, year, n, i), in(i, track.size()) ? track.get(i) : -1, ship, year, n, i);
                    break;
                }
                case 3:
                    due("state", logs.state(f, n), okFact ? m.state(f, n) : -1, f, n);
                    break;
                case 4:
                    due("slips", logs.slips(n), ok ? m.slips(n) : -1, n);
                    break;
                case 5: {
                    List<Integer> cells = okFact ? m.right(f, n) : null;
                    due("right", logs.right(f, n), cells == null ? -1 : cells.size(), f, n);
                    due("rightAt", logs.rightAt(f, n, i), cells != null && in(i, cells.size()) ? cells.get(i) : -1, f, n, i);
                    break;
                }
                case 6:
                    due("caught", logs.caught(year, n), ok && in(year, 40) ? m.caught(year, n) : -1, year, n);
                    break;
                case 7: {
                    int s = draw(1000);
                    due("stock", logs.stock(s, year, n), ok && in(year, 40) && in(s, 1000) ? m.stock(s, m.taken(n), year) : -1, s, year, n);
                    break;
                }
                default:
                    due("least", logs.least(year, n), ok && in(year, 40) ? m.least(year, n) : -1, year, n);
            }
        }

        void askEdges() {
            int x = x();
            int y = draw(12);
            int week = week();
            int year = year();
            int slack = draw(4);
            int n = n();
            int what = draw(4);
            boolean ok = known(n);
            boolean okWeek = ok && in(week, 16) && in(year, 40);
            boolean okSlack = okWeek && in(slack, 4);
            boolean cell = in(x, 10) && in(y, 12);
            switch (random.nextInt(12)) {
                case 0: case 1:
                    due("span", logs.span(x, week, year, slack, n, what),
                        okSlack && in(x, 10) && in(what, 4) ? m.span(x, week, year, slack, n)[what] : -1, x, week, year, slack, n, what);
                    break;
                case 2:
                    due("fitting", logs.fitting(week, year, slack, n), okSlack ? m.fitting(week, year, slack, n) : -1, week, year, slack, n);
                    break;
                case 3:
                    due("odds", logs.odds(x, y, week, year, slack, n), okSlack && cell ? m.odds(x, y, week, year, slack, n) : -1,
                        x, y, week, year, slack, n);
                    break;
                case 4: {
                    int a = draw(6);
                    int b = draw(6);
                    int w = draw(2);
                    boolean good = ok && in(a, 6) && in(b, 6) && a < b && in(w, 2);
                    List<Integer> k = good ? m.keepers(a, b, n) : List.of();
                    due("keepers", logs.keepers(a, b, n, w),
                        good ? w == 0 ? k.size() : k.stream().mapToInt(d -> d).sum() : -1000, a, b, n, w);
                    break;
                }
                case 5: {
                    int ship = draw(4);
                    due("leanOf", logs.leanOf(ship, n), ok && in(ship, 4) ? m.leanOf(ship, n) : -100, ship, n);
                    break;
                }
                case 6:
                    due("trend", logs.trend(x, week, n, what), ok && in(x, 10) && in(week, 16) && in(what, 4) ? m.trend(x, week, n)[what] : -1,
                        x, week, n, what);
                    break;
                case 7:
                    due("nowhere", logs.nowhere(year, n), ok && in(year, 40) ? m.nowhere(year, n) : -1, year, n);
                    break;
                case 8:
                    due("next", logs.next(week, year, slack, n), okSlack ? m.next(week, year, slack, n) : -1, week, year, slack, n);
                    break;
                case 9: {
                    due("surely", logs.surely(x, y, week, year, slack, n),
                        okSlack && cell ? m.surely(12 * x + y, year, m.fitting(week, year, slack, n)) : -1, x, y, week, year, slack, n);
                    break;
                }
                case 10: {
                    int w = draw(3);
                    due("joined", logs.joined(n, w), ok && in(w, 3) ? m.joined(n)[w] : -100, n, w);
                    break;
                }
                default:
                    due("say", logs.say(x, week, year, n), okWeek && in(x, 10) ? m.say(x, week, year, n) : -1, x, week, year, n);
            }
        }
    }
}
