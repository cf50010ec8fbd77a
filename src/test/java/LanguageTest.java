import java.io.IOException;
import java.lang.reflect.Array;
import java.lang.reflect.Field;
import java.lang.reflect.Modifier;
import java.nio.file.Files;
import java.nio.file.Path;
import java.util.ArrayList;
import java.util.Arrays;
import java.util.Collections;
import java.util.IdentityHashMap;
import java.util.List;
import java.util.Set;
import java.util.TreeSet;
import java.util.regex.Matcher;
import java.util.regex.Pattern;

/** Rules of ../shared/LANGUAGE.md that can be seen from the source's lines. */
public final class LanguageTest {
    private static int wrong = 0;

    public static void main(String[] args) throws IOException, IllegalAccessException {
        Path source = Path.of("src/main/java/IceLogs.java");
        List<String> lines = Files.readAllLines(source);
        String text = String.join("\n", lines);
        String code = text.replaceAll("(?s)/\\*.*?\\*/", "").replaceAll("//[^\n]*", "").replaceAll("\"[^\"\n]*\"", "\"\"");
        none("rule 3, 4: a type or a library that is not there", code,
            "\\b(import|package|float|double|Object|Map|Set|HashMap|HashSet|Optional|Stream|Thread|Random|Collections|Character)\\b");
        none("rule 2: a lambda or a method reference", code, "->|::");
        none("rule 5: static state that is not final", code, "\\bstatic (?!final\\b|class\\b)\\w+(\\[\\])* \\w+\\s*[=;]");
        none("rule 5: a static initialiser", code, "\\bstatic\\s*\\{");
        none("rule 6: throw, try, catch, synchronized, assert, instanceof", code,
            "\\b(throw|throws|try|catch|finally|synchronized|assert|instanceof)\\b");
        none("rule 6: equals, hashCode, toString", code, "\\b(equals|hashCode|toString)\\b");
        none("rule 8, 9: a loop without a counter", code, "\\bwhile\\b|\\bfor \\(;|\\bdo \\{");
        none("rule 10: texts joined by +", code, "\"\"\\s*\\+|\\+\\s*\"\"");
        none("rule 13: a clock, a file, a network, the environment", code, "\\bSystem\\.(?!arraycopy\\b)");
        none("rule 4: a Math function whose name ends in Exact", code, "\\bMath\\.\\w*Exact\\b");
        namesOfTheFace(code);
        newOnlyInConstructors(code);
        sizes(lines, code);
        roomOfAnObject();
        System.out.println(wrong == 0 ? "the rules that lines can show are kept" : wrong + " rules are broken");
        if (wrong != 0) {
            System.exit(1);
        }
    }

    private static void say(String what) {
        wrong++;
        System.out.println(what);
    }

    private static void none(String rule, String code, String pattern) {
        Matcher found = Pattern.compile(pattern).matcher(code);
        if (found.find()) {
            say(rule + ": " + found.group());
        }
    }

    /** The face is public, and no other member of the outer class is seen from outside it; no other method has a name of the face. */
    private static void namesOfTheFace(String code) {
        Set<String> face = new TreeSet<>();
        Matcher heads = Pattern.compile("(?m)^ +((?:private |static |public |protected )*)[\\w\\[\\]]+ (\\w+)\\([^()]*\\) \\{").matcher(code);
        while (heads.find()) {
            if (heads.group(1).contains("public ") && !face.add(heads.group(2))) {
                say("rule 1: twice in the face: " + heads.group(2));
            }
        }
        if (face.size() != 41) {
            say("rule 1: " + face.size() + " methods in the face");
        }
        heads.reset();
        while (heads.find()) {
            if (!heads.group(1).contains("public ") && face.contains(heads.group(2))) {
                say("rule 1: a private method has the name of a public one: " + heads.group(2));
            }
        }
        Matcher members = Pattern.compile("(?m)^ {4}(?!private |public |\\}|@)\\S.*").matcher(code);
        while (members.find()) {
            say("rule 1: a member that is not private: " + members.group().trim());
        }
    }

    /** Rows are made with the object, and used again by every call: so a run's room is that of its objects. */
    private static void newOnlyInConstructors(String code) {
        int constructor = code.indexOf("public IceLogs() {");
        int end = code.indexOf("\n    }\n", constructor);
        String rest = code.substring(0, constructor) + code.substring(end);
        for (String line : rest.split("\n")) {
            if (line.contains("new ") && !line.matches(" {8}final [\\w\\[\\]]+ \\w+ = new .*;")) {
                say("rule 12: made by a call: " + line.trim());
            }
        }
    }

    /** All objects of a run share one room: what one takes is counted, field by field and element by element. */
    private static void roomOfAnObject() throws IllegalAccessException {
        Set<Object> met = Collections.newSetFromMap(new IdentityHashMap<>());
        List<Object> waiting = new ArrayList<>(List.of(new IceLogs()));
        int cells = 0;
        while (!waiting.isEmpty()) {
            Object object = waiting.remove(waiting.size() - 1);
            if (!met.add(object)) {
                continue;
            }
            if (object.getClass().isArray()) {
                cells += Array.getLength(object);
                if (object instanceof Object[]) {
                    waiting.addAll(Arrays.asList((Object[]) object));
                }
                continue;
            }
            for (Field field : object.getClass().getDeclaredFields()) {
                if (!Modifier.isStatic(field.getModifiers())) {
                    cells++;
                    field.setAccessible(true);
                    if (!field.getType().isPrimitive() && field.get(object) != null) {
                        waiting.add(field.get(object));
                    }
                }
            }
        }
        System.out.println("an object takes " + met.size() + " objects and arrays, " + cells + " fields and elements");
        if (met.size() > 100 || cells > 20000) {
            say("rule 12: a run of some hundred objects would not be small");
        }
    }

    private static void sizes(List<String> lines, String code) {
        int classes = code.split("\\bclass ").length - 1;
        if (classes > 12) {
            say("rule 11: " + classes + " classes");
        }
        Matcher heads = Pattern.compile("(?m)^ +(?:private |static |public )*[\\w\\[\\]]+ (\\w+)\\(([^()]*)\\) \\{").matcher(code);
        while (heads.find()) {
            boolean ofTheFace = heads.group().contains("public ");
            int parameters = heads.group(2).isEmpty() ? 0 : heads.group(2).split(",").length;
            if (parameters > 7 && !ofTheFace) {
                say("rule 11: " + parameters + " parameters: " + heads.group(1));
            }
        }
        int start = 0;
        for (int i = 0; i < lines.size(); i++) {
            String line = lines.get(i);
            if (line.matches(" {4}( {4})?[\\w\\[\\] ]+\\([^()]*\\) \\{")) {
                start = i;
            }
            if (line.matches(" {4}( {4})?\\}") && i - start > 60 && start > 0 && lines.get(start).indexOf(lines.get(start).trim()) == line.indexOf('}')) {
                say("rule 11: a method of " + (i - start) + " lines: " + lines.get(start).trim());
            }
            if (line.length() > 125) {
                say("a long line: " + (i + 1));
            }
        }
    }
}
