import java.lang.reflect.Constructor;
import java.lang.reflect.Field;
import java.lang.reflect.Method;
import java.lang.reflect.Modifier;
import java.nio.file.Files;
import java.nio.file.Path;
import java.util.ArrayDeque;
import java.util.Arrays;
import java.util.Deque;
import java.util.List;
import java.util.Map;
import java.util.Set;
import java.util.TreeMap;
import java.util.TreeSet;
import java.util.regex.Matcher;
import java.util.regex.Pattern;
import java.util.stream.Stream;

/** The face of the class, and the rules of LANGUAGE.md that its text and its members show. Runs in the project's folder. */
public final class LanguageTest {
    private static final List<String> FACE = List.of(
            "int type(int)", "int clear()", "int tells()", "int drives(int,int,int,int)", "int loses(int)",
            "int mends(int)", "int loads(int,int)", "int moves(int,int,int)", "int winds(int,int)", "int undo()",
            "long pile(int,int)", "long column(int,int)", "long sum(int)", "int sharing(int)", "long share(int,int)",
            "long press(int,int,int)", "long most(int)", "long factor(int)", "int kern(int,int)", "int kerns(int)",
            "long without(int,int)", "int key()", "int extra(int,int)", "int odds(int,int)", "int hunts(int)",
            "int sees(int,int)", "int forget()", "int spots(int)", "int ask()", "int keep(int)", "int back(int)",
            "int count(int)");
    private static final List<String> CONSTANTS = List.of("int BAD", "int STATE", "int FULL", "int NONE", "long NO",
            "long NOT");
    private static final List<String> BANNED = List.of("throw", "throws", "try", "catch", "finally", "synchronized",
            "assert", "native", "volatile", "transient", "Object", "System(?!\\.arraycopy)", "\\w+Exact", "double",
            "float", "->", "::", "@\\w+", "equals", "hashCode", "toString", "static \\{", "protected", "yield", "goto",
            // words of newer Java that would be allowed as names, but are not read as names everywhere
            "record", "var", "sealed", "permits");
    private static final int DEEPEST = 8;

    private static int wrong = 0;

    private static void rule(int number, boolean kept, String what) {
        if (!kept) {
            wrong++;
            System.out.println("rule " + number + ": " + what);
        }
    }

    public static void main(String[] args) throws Exception {
        String source = Files.readString(Path.of("src/main/java/PileShares.java"));
        face();
        members(PileShares.class);
        Class<?>[] inside = PileShares.class.getDeclaredClasses();
        for (Class<?> nested : inside) {
            rule(2, Modifier.isStatic(nested.getModifiers()), nested + " is not static");
            rule(1, !Modifier.isPublic(nested.getModifiers()), nested + " is public");
            members(nested);
        }
        rule(11, inside.length + 1 <= 12, "more than twelve classes");
        text(source);
        lengths(source);
        depths(source);
        System.out.println(wrong == 0 ? "the rules that can be seen are kept" : wrong + " rules broken");
        if (wrong != 0) {
            System.exit(1);
        }
    }

    private static String signature(Method m) {
        StringBuilder s = new StringBuilder(m.getReturnType().getName() + " " + m.getName() + "(");
        for (Class<?> type : m.getParameterTypes()) {
            s.append(s.charAt(s.length() - 1) == '(' ? "" : ",").append(type.getName());
        }
        return s.append(")").toString();
    }

    private static void face() {
        Class<?> type = PileShares.class;
        rule(1, Modifier.isPublic(type.getModifiers()) && Modifier.isFinal(type.getModifiers()), "not public and final");
        Set<String> open = new TreeSet<>();
        Set<String> openNames = new TreeSet<>();
        for (Method m : type.getDeclaredMethods()) {
            if (!Modifier.isPrivate(m.getModifiers())) {
                rule(1, Modifier.isPublic(m.getModifiers()) && !Modifier.isStatic(m.getModifiers()), "not of the face: " + m);
                open.add(signature(m));
                openNames.add(m.getName());
            }
        }
        rule(1, open.equals(new TreeSet<>(FACE)), "the methods are " + open);
        for (Method m : type.getDeclaredMethods()) {
            rule(1, !Modifier.isPrivate(m.getModifiers()) || !openNames.contains(m.getName()), "private too: " + m);
        }
        for (Class<?> nested : type.getDeclaredClasses()) {
            for (Method m : nested.getDeclaredMethods()) {
                rule(1, !openNames.contains(m.getName()), "bears the name of a public method: " + m);
            }
        }
        Set<String> constants = new TreeSet<>();
        for (Field f : type.getDeclaredFields()) {
            if (!Modifier.isPrivate(f.getModifiers())) {
                constants.add(f.getType().getName() + " " + f.getName());
                rule(1, Modifier.toString(f.getModifiers()).equals("public static final"), "not a constant: " + f);
            }
        }
        rule(1, constants.equals(new TreeSet<>(CONSTANTS)), "the constants are " + constants);
        Constructor<?>[] made = type.getDeclaredConstructors();
        rule(1, made.length == 1 && made[0].getParameterCount() == 0 && Modifier.isPublic(made[0].getModifiers()),
                "the constructors are " + Arrays.toString(made));
    }

    private static void members(Class<?> type) {
        int fields = 0;
        for (Field f : type.getDeclaredFields()) {
            if (Modifier.isStatic(f.getModifiers())) {
                rule(5, Modifier.isFinal(f.getModifiers()), "not final: " + f);
                rule(5, f.getType().isPrimitive() || f.getType() == String.class || f.getType().isArray(), "static: " + f);
            } else {
                fields++;
            }
        }
        rule(11, fields <= 20, type + " has " + fields + " fields");
        for (Method m : type.getDeclaredMethods()) {
            rule(11, m.getParameterCount() <= 7, "more than seven parameters: " + m);
        }
    }

    private static void text(String source) {
        String code = source.replaceAll("(?s)/\\*.*?\\*/|//[^\n]*", "");
        for (String word : BANNED) {
            boolean isWord = Character.isLetter(word.charAt(0)) || word.charAt(0) == '\\';
            Matcher m = Pattern.compile(isWord ? "\\b" + word + (word.endsWith("{") ? "" : "\\b") : word).matcher(code);
            rule(6, !m.find(), "has " + word);
        }
        Matcher imports = Pattern.compile("import ([\\w.*]+);").matcher(code);
        while (imports.find()) {
            rule(4, imports.group(1).equals("java.util.Arrays"), "imports " + imports.group(1));
        }
        Matcher calls = Pattern.compile("\\b(Math|Integer|Long|Arrays)\\.(\\w+)").matcher(code);
        while (calls.find()) {
            rule(4, Set.of("compare", "max", "min", "abs", "bitCount", "floorDiv", "fill").contains(calls.group(2)),
                    "calls " + calls.group());
        }
        rule(3, source.chars().allMatch(c -> c == 10 || c >= 32 && c < 127), "a sign that is none of 32 to 126");
        rule(0, !code.contains("package "), "has a package line");
        // all calls of a run live in one room, so that only an object's making makes others
        for (String line : code.split("\n")) {
            boolean made = line.contains("new ");
            rule(12, !made || line.matches(" +private final .* = new .*|            (past|images)\\[i\\] = new .*"), "makes" + line);
        }
    }

    /** By the layout: a method is opened with 4 or 8 blanks before it, and closed with as many. */
    private static void lengths(String source) {
        String[] lines = source.split("\n");
        for (int i = 0; i < lines.length; i++) {
            rule(0, lines[i].length() <= 120, "line " + (i + 1) + " is long");
            Matcher open = Pattern.compile("( {4}| {8})\\S[^=]*\\) \\{").matcher(lines[i]);
            if (open.matches()) {
                int end = i;
                while (end < lines.length && !lines[end].equals(open.group(1) + "}")) {
                    end++;
                }
                rule(11, end - i < 60, "a method of " + (end - i) + " lines at line " + (i + 1));
            }
        }
    }

    /** By the names alone: methods of one name count as one, so that no chain of calls is longer than what is found. */
    private static void depths(String source) {
        Map<String, String> bodies = new TreeMap<>();
        Matcher methods = Pattern.compile("(?m)^( {4}| {8})(?=\\w)[\\w ]+ (\\w+)\\([^()=]*\\) \\{\n((?s:.*?))\n\\1\\}$")
                .matcher(source);
        while (methods.find()) {
            bodies.merge(methods.group(2), methods.group(3), String::concat);
        }
        rule(0, bodies.keySet().containsAll(methodNames()), "not all methods are found in the text: " + bodies.keySet());
        for (String name : bodies.keySet()) {
            depthBelow(name, bodies, new ArrayDeque<>());
        }
    }

    private static Set<String> methodNames() {
        Set<String> names = new TreeSet<>();
        Class<?> type = PileShares.class;
        Stream.concat(Stream.of(type), Stream.of(type.getDeclaredClasses()))
                .flatMap(c -> Stream.of(c.getDeclaredMethods())).forEach(m -> names.add(m.getName()));
        return names;
    }

    private static void depthBelow(String name, Map<String, String> bodies, Deque<String> open) {
        boolean again = open.contains(name);
        rule(8, !again, "calls itself: " + open + " " + name);
        if (again) {
            return;
        }
        open.addLast(name);
        rule(11, open.size() <= DEEPEST, "deep calls: " + open);
        Matcher calls = Pattern.compile("\\b(\\w+)\\(").matcher(bodies.get(name));
        while (calls.find()) {
            if (bodies.containsKey(calls.group(1))) {
                depthBelow(calls.group(1), bodies, open);
            }
        }
        open.removeLast();
    }
}
