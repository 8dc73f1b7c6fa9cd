import java.io.IOException;
import java.lang.reflect.Field;
import java.lang.reflect.Method;
import java.lang.reflect.Modifier;
import java.nio.file.Files;
import java.nio.file.Path;
import java.util.ArrayDeque;
import java.util.Deque;
import java.util.HashSet;
import java.util.Map;
import java.util.Set;
import java.util.TreeMap;
import java.util.TreeSet;
import java.util.regex.Matcher;
import java.util.regex.Pattern;

/**
 * The rules of LANGUAGE.md by their numbers, as far as a program can see them. Some checks are narrower than their
 * rule (no dot at all, one form of loop): the class needs no more, and so the check stays plain. Rule 9 forbids
 * nothing; that no call throws (rule 7) is seen by the other tests, which hand in every kind of wrong number.
 */
public final class LanguageTest {
    private static final Set<Class<?>> TYPES = Set.of(int.class, long.class, short.class, byte.class, char.class,
            boolean.class, int[].class, long[].class, short[].class, byte[].class, char[].class, boolean[].class);
    private static final Set<String> NOT_CALLS = Set.of("if", "for", "while", "switch", "return");
    private static final Pattern METHOD = Pattern.compile(
            "(?ms)^    (?:public|private)(?: static)?(?: \\w+)? (\\w+)\\([^)]*\\) \\{\n(.*?)^    \\}$");
    private static final Pattern OPENING = Pattern.compile("(\\w+)?\\s*\\(|\\)");
    private static final Pattern LOOP = Pattern.compile("for \\(int (\\w+) = 0; \\1 < (\\w+|1 << n); \\1\\+\\+\\)");

    private static int wrong = 0;
    private static String code = "";
    private static final Map<String, String> bodies = new TreeMap<>();
    private static final Map<String, Set<String>> calls = new TreeMap<>();

    private static void keeps(int rule, boolean kept, String what) {
        if (!kept) {
            wrong++;
            System.out.println("rule " + rule + " of LANGUAGE.md: " + what);
        }
    }

    public static void main(String[] args) throws IOException {
        String text = Files.readString(Path.of("src/main/java/MddBranchBound.java"));
        code = text.replaceAll("(?s)/\\*.*?\\*/", " ").replaceAll("//[^\n]*", " ");
        readMethods();
        oneClass();
        types();
        noLibrary();
        arrays();
        staticFields();
        bannedWords();
        loops();
        sizes();
        for (String name : bodies.keySet()) {
            callsOf(name);
        }
        for (String name : bodies.keySet()) {
            int depth = depthOf(name, new HashSet<>());
            keeps(10, depth <= 6, name + " calls " + depth + " deep");
        }
        System.out.println(wrong == 0 ? "all rules are kept" : wrong + " faults");
        if (wrong != 0) {
            System.exit(1);
        }
    }

    private static void readMethods() {
        Matcher method = METHOD.matcher(code);
        while (method.find()) {
            keeps(1, bodies.put(method.group(1), method.group(2)) == null, "two methods named " + method.group(1));
        }
        Set<String> there = new TreeSet<>();
        there.add("MddBranchBound");
        for (Method m : MddBranchBound.class.getDeclaredMethods()) {
            there.add(m.getName());
        }
        // Otherwise a method laid out in another way would go unseen.
        keeps(1, there.equals(bodies.keySet()), "the methods are " + there + ", seen were " + bodies.keySet());
    }

    private static boolean found(String pattern) {
        return Pattern.compile(pattern).matcher(code).find();
    }

    private static void oneClass() {
        keeps(1, code.trim().startsWith("public final class MddBranchBound {"), "not one public final class");
        Matcher kind = Pattern.compile("\\b(class|interface|enum|record)\\b").matcher(code);
        int kinds = 0;
        while (kind.find()) {
            kinds++;
        }
        keeps(1, kinds == 1, kinds + " classes");
        Matcher member = Pattern.compile("(?m)^    (\\w.*)$").matcher(code);
        while (member.find()) {
            keeps(1, member.group(1).matches("(public|private) .*"), "neither public nor private: " + member.group(1));
        }
    }

    private static void types() {
        for (Field f : MddBranchBound.class.getDeclaredFields()) {
            keeps(2, TYPES.contains(f.getType()), "the type of " + f.getName());
        }
        for (Method m : MddBranchBound.class.getDeclaredMethods()) {
            for (Class<?> type : m.getParameterTypes()) {
                keeps(2, TYPES.contains(type), "a parameter of " + m.getName());
            }
            Class<?> answer = m.getReturnType();
            keeps(2, answer == void.class || TYPES.contains(answer), "the answer of " + m.getName());
            keeps(4, !answer.isArray(), m.getName() + " answers an array");
        }
        keeps(2, !found("\\b(float|double|var)\\b|\"|\\d\\.|\\.\\d|\\b\\d+[fFdD]\\b"), "a float, a double or a String");
        keeps(2, !found("\\]\\s*\\["), "an array of arrays");
    }

    /** Without a dot nothing of another class can be reached; a name with great and small letters is a class's. */
    private static void noLibrary() {
        keeps(3, !found("\\."), "a dot");
        keeps(3, !found("\\b(import|package)\\b"), "an import or a package");
        Matcher name = Pattern.compile("\\b[A-Z]\\w*[a-z]\\w*").matcher(code);
        while (name.find()) {
            keeps(3, name.group().equals("MddBranchBound"), "the class " + name.group());
        }
    }

    private static void arrays() {
        Matcher made = Pattern.compile("(?m)^.*\\bnew\\b.*$").matcher(code);
        Pattern field = Pattern.compile("    private final (int|long|short|byte|char|boolean)\\[\\] \\w+"
                + " = new \\1\\[([A-Z_]+|[1-9]\\d*)\\];");
        while (made.find()) {
            keeps(4, field.matcher(made.group()).matches(), "not made in a field of constant length: " + made.group());
        }
        keeps(4, !found("\\bnull\\b"), "null");
        keeps(4, !found("\\]\\s*(\\w+\\s*)?=\\s*\\{"), "an array made from its members");
        for (Field f : MddBranchBound.class.getDeclaredFields()) {
            // A final field can't be assigned by a method.
            keeps(4, !f.getType().isArray() || Modifier.isFinal(f.getModifiers()), f.getName() + " is not final");
        }
    }

    private static void staticFields() {
        Matcher field = Pattern.compile("(?m)^.*\\bstatic\\b[^(\n]*$").matcher(code);
        while (field.find()) {
            keeps(5, field.group().matches("    (public|private) static final (int|long) [A-Z_]+ = -?\\d+;"),
                    "not a constant: " + field.group());
        }
        for (Field f : MddBranchBound.class.getDeclaredFields()) {
            keeps(5, !Modifier.isStatic(f.getModifiers()) || f.getType() == int.class || f.getType() == long.class,
                    "the static field " + f.getName());
        }
    }

    private static void bannedWords() {
        String[] words = {"throw", "throws", "try", "catch", "finally", "synchronized", "assert", "instanceof"};
        for (String word : words) {
            keeps(6, !found("\\b" + word + "\\b"), word);
        }
        keeps(6, !found("->|::"), "a lambda or a method reference");
    }

    /** One form of loop: a counter from 0 up to a bound, neither of which is assigned again in the same method. */
    private static void loops() {
        keeps(8, !found("\\b(while|do)\\b"), "a loop of another form than for");
        for (String name : bodies.keySet()) {
            String body = bodies.get(name);
            int loops = body.split("\\bfor\\b", -1).length - 1;
            Matcher loop = LOOP.matcher(body);
            while (loop.find()) {
                loops--;
                String counter = loop.group(1);
                String bound = loop.group(2).equals("1 << n") ? "n" : loop.group(2);
                String rest = body.replace(loop.group(), "").replace("int " + bound + " =", "");
                keeps(8, !isAssigned(counter, rest), name + " assigns the counter " + counter);
                keeps(8, !isAssigned(bound, rest), name + " assigns the bound " + bound);
            }
            keeps(8, loops == 0, name + " has a loop of another form");
        }
    }

    private static boolean isAssigned(String name, String body) {
        String after = "\\b" + name + "\\b\\s*((<<|>>>?|[-+*/%&|^])?=(?!=)|\\+\\+|--)";
        String before = "(\\+\\+|--)\\s*" + name + "\\b";
        return Pattern.compile(after + "|" + before).matcher(body).find();
    }

    private static void sizes() {
        int held = 0;
        for (Field f : MddBranchBound.class.getDeclaredFields()) {
            held += Modifier.isStatic(f.getModifiers()) ? 0 : 1;
        }
        keeps(10, held <= 40, held + " fields");
        for (Method m : MddBranchBound.class.getDeclaredMethods()) {
            keeps(10, m.getParameterCount() <= 7, m.getName() + " takes " + m.getParameterCount() + " parameters");
        }
        for (Map.Entry<String, String> method : bodies.entrySet()) {
            int lines = method.getValue().split("\n").length + 2;
            keeps(10, lines <= 60, method.getKey() + " has " + lines + " lines");
        }
    }

    /** Notes whom a method calls, and looks for a call that stands inside another's arguments. */
    private static void callsOf(String name) {
        Set<String> called = new TreeSet<>();
        Deque<Boolean> open = new ArrayDeque<>();
        Matcher m = OPENING.matcher(bodies.get(name));
        while (m.find()) {
            if (m.group().equals(")")) {
                open.pop();
                continue;
            }
            boolean isCall = m.group(1) != null && !NOT_CALLS.contains(m.group(1));
            if (isCall) {
                keeps(3, bodies.containsKey(m.group(1)), name + " calls " + m.group(1) + ", which is not of the class");
                keeps(10, !open.contains(true), name + " calls " + m.group(1) + " inside a call's arguments");
                called.add(m.group(1));
            }
            open.push(isCall);
        }
        calls.put(name, called);
    }

    private static int depthOf(String name, Set<String> above) {
        if (above.contains(name)) {
            keeps(8, false, name + " calls itself");
            return 0;
        }
        above.add(name);
        int deepest = 0;
        for (String called : calls.getOrDefault(name, Set.of())) {
            deepest = Math.max(deepest, depthOf(called, above));
        }
        above.remove(name);
        return deepest + 1;
    }
}
