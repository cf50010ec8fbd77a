import java.io.IOException;
import java.nio.file.Files;
import java.nio.file.Path;
import java.util.ArrayList;
import java.util.LinkedHashMap;
import java.util.LinkedHashSet;
import java.util.List;
import java.util.Map;
import java.util.Random;
import java.util.Set;
import java.util.TreeSet;
import java.util.regex.Matcher;
import java.util.regex.Pattern;

/**
 * SYNTAX (promise 4, 5) against the document's own grammar: its lines are read from ../shared/DOC.md, drawn texts are
 * derived from them and then spoilt, and Earley's chart tells the first TOKEN with which no text goes on.
 */
public final class GrammarTest {
    private static final int TEXTS = 6000;

    // by name: its ways, each a row of names of rules, quoted words, NAME or INT
    private final Map<String, List<List<String>>> rules = new LinkedHashMap<>();
    private final Set<String> words = new TreeSet<>();
    private final List<String> grammar = new ArrayList<>();
    private final Random random;
    private int at = 0;

    private GrammarTest(String line, long seed) {
        random = new Random(seed);
        Matcher found = Pattern.compile("'[^']+'|[A-Za-z]+|[:.|(){}]").matcher(line);
        while (found.find()) {
            grammar.add(found.group());
            if (found.group().matches("'[a-z]+'")) {
                words.add(found.group());
            }
        }
        while (at < grammar.size()) {
            String name = grammar.get(at);
            at += 2;
            rules.put(name, ways());
            at++;
        }
    }

    public static void main(String[] args) throws IOException {
        GrammarTest test = new GrammarTest(lineOfGrammar(), 12);
        Check.due(4, "words in quotes", test.words.size(), 22);
        int faults = 0;
        for (int i = 0; i < TEXTS; i++) {
            faults += test.tryText() ? 1 : 0;
        }
        Check.due(4, "texts with a SYNTAX fault are many: " + faults, faults > TEXTS / 4 && faults < TEXTS * 3 / 4, true);
        Check.finish();
    }

    private static String lineOfGrammar() throws IOException {
        for (String line : Files.readAllLines(Path.of("../shared/DOC.md"))) {
            if (line.trim().startsWith("text: {TELL}.")) {
                return line;
            }
        }
        throw new IllegalStateException("the document has no grammar");
    }

    // ---- the grammar's line ----

    private List<List<String>> ways() {
        List<List<String>> ways = new ArrayList<>();
        ways.add(new ArrayList<>());
        while (!")}.".contains(grammar.get(at))) {
            String part = grammar.get(at++);
            if (part.equals("|")) {
                ways.add(new ArrayList<>());
                continue;
            }
            if (part.equals("(") || part.equals("{")) {
                part = group(part.equals("{"));
            }
            ways.get(ways.size() - 1).add(part);
        }
        return ways;
    }

    private String group(boolean again) {
        String name = "group" + rules.size() + "." + at;
        rules.put(name, new ArrayList<>());
        List<List<String>> ways = ways();
        at++;
        if (again) {
            for (List<String> way : ways) {
                way.add(name);
            }
            ways.add(new ArrayList<>());
        }
        rules.put(name, ways);
        return name;
    }

    // ---- drawn texts ----

    private void derive(String name, int deep, List<String> tokens) {
        List<List<String>> ways = rules.get(name);
        if (ways == null) {
            tokens.add(name);
            return;
        }
        // far down the way that ends soonest: an INT, no more of what may come again, no 'not'
        int soonest = name.equals("UNIT") ? 0 : ways.size() - 1;
        List<String> way = ways.get(deep > 20 ? soonest : random.nextInt(ways.size()));
        for (String part : way) {
            derive(part, deep + 1, tokens);
        }
    }

    private String drawn() {
        String[] others = {"NAME", "INT", "'@'", "'12345'", "'abcdefghi'", "'!'", "'=='", "'='", "'<'", "'<='", "'('", "')'", "';'"};
        int which = random.nextInt(30);
        return which < others.length ? others[which] : new ArrayList<>(words).get(random.nextInt(words.size()));
    }

    private void spoil(List<String> tokens) {
        int where = random.nextInt(tokens.size() + 1);
        int how = random.nextInt(3);
        if (how == 0 || where == tokens.size()) {
            tokens.add(where, drawn());
        } else if (how == 1) {
            tokens.remove(where);
        } else {
            tokens.set(where, drawn());
        }
    }

    private String written(String token, int i) {
        if (token.equals("NAME")) {
            return "q" + (char) ('a' + i / 26 % 26) + (char) ('a' + i % 26);
        }
        return token.equals("INT") ? String.valueOf(1 + random.nextInt(3)) : token.substring(1, token.length() - 1);
    }

    /** If two TOKENS would be another one without a blank between. */
    private static boolean isGlued(String one, String next) {
        char a = one.charAt(one.length() - 1);
        char b = next.charAt(0);
        boolean letters = Character.isLetter(a) && Character.isLetter(b);
        return letters || Character.isDigit(a) && Character.isDigit(b) || "=!<".indexOf(a) >= 0 && b == '=';
    }

    // ---- one text ----

    private boolean tryText() {
        List<String> tokens = new ArrayList<>();
        for (int i = random.nextInt(4); i >= 0; i--) {
            derive("TELL", 0, tokens);
        }
        for (int i = random.nextInt(3); i > 0; i--) {
            spoil(tokens);
        }
        StringBuilder text = new StringBuilder();
        List<Integer> places = new ArrayList<>();
        String before = ";";
        for (int i = 0; i < tokens.size(); i++) {
            String sign = written(tokens.get(i), i);
            if (isGlued(before, sign) || random.nextInt(3) == 0) {
                text.append("\t\n\r ".charAt(random.nextInt(4)));
            }
            places.add(text.length());
            text.append(sign);
            before = sign;
        }
        text.append(random.nextBoolean() ? " " : "");
        places.add(text.length());
        if (text.length() > 1900 || tokens.size() > 400 || isTooDeep(tokens)) {
            return false;
        }
        int first = firstFault(tokens);
        IceLogs logs = new IceLogs();
        int fault = Check.tell(logs, text.toString());
        Check.due(4, "SYNTAX in: " + text, fault == 1, first >= 0);
        Check.due(5, "place in: " + text, first >= 0 ? logs.place() : 0, first >= 0 ? places.get(first) : 0);
        return first >= 0;
    }

    /** Brackets are not held against ROOM here. */
    private static boolean isTooDeep(List<String> tokens) {
        int open = 0;
        for (String token : tokens) {
            open += token.equals("'('") ? 1 : token.equals("')'") ? -1 : token.equals("';'") ? -open : 0;
            if (open > 6) {
                return true;
            }
        }
        return false;
    }

    // ---- Earley's chart: a state is a rule's name, its way, how far it is, and where it began ----

    private record State(String name, List<String> way, int done, int begin) {
        String next() {
            return done < way.size() ? way.get(done) : null;
        }

        State on() {
            return new State(name, way, done + 1, begin);
        }
    }

    /** The first TOKEN with which no text goes on (their number: the text's end), or -1. */
    private int firstFault(List<String> tokens) {
        List<Set<State>> chart = new ArrayList<>();
        Set<State> states = new LinkedHashSet<>();
        for (List<String> way : rules.get("text")) {
            states.add(new State("text", way, 0, 0));
        }
        for (int i = 0; ; i++) {
            chart.add(states);
            close(chart, i);
            if (i == tokens.size()) {
                return states.stream().anyMatch(s -> s.name.equals("text") && s.next() == null) ? -1 : i;
            }
            Set<State> after = new LinkedHashSet<>();
            for (State state : states) {
                if (tokens.get(i).equals(state.next())) {
                    after.add(state.on());
                }
            }
            if (after.isEmpty()) {
                return i;
            }
            states = after;
        }
    }

    private void close(List<Set<State>> chart, int i) {
        Set<State> states = chart.get(i);
        int size = -1;
        while (states.size() != size) {
            size = states.size();
            for (State state : new ArrayList<>(states)) {
                if (state.next() == null) {
                    for (State waiting : new ArrayList<>(chart.get(state.begin))) {
                        if (state.name.equals(waiting.next())) {
                            states.add(waiting.on());
                        }
                    }
                } else if (rules.containsKey(state.next())) {
                    for (List<String> way : rules.get(state.next())) {
                        states.add(new State(state.next(), way, 0, i));
                    }
                }
            }
        }
    }
}
