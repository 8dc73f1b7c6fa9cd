import java.io.IOException;
import java.lang.reflect.Constructor;
import java.lang.reflect.Field;
import java.lang.reflect.Method;
import java.lang.reflect.Modifier;
import java.nio.file.Files;
import java.nio.file.Path;
import java.util.Arrays;
import java.util.HashSet;
import java.util.Set;
import java.util.TreeSet;
import java.util.regex.Matcher;
import java.util.regex.Pattern;

/** The document's public face, and those rules of LANGUAGE.md that can be seen without reading the code. */
public final class FaceTest {
    private static final String[] METHODS = {
        "int vertices()", "int edge(int,int,int)", "int chain(int,int,int)", "int weigh(int,int)",
        "int force(int,int)", "int neighbours(int)", "int possible()", "int best()", "int bestSet()",
        "int bestWith(int)", "int bestWithout(int)", "int allowedSets()", "int bestSets()",
        "int atLeast(int)", "int alpha()", "int leastCover()"
    };
    private static final Set<Class<?>> TYPES = Set.of(int.class, long.class, short.class, byte.class, char.class,
            boolean.class, int[].class, long[].class, short[].class, byte[].class, char[].class, boolean[].class);
    private static final String[] BANNED = {
        "import", "package", "float", "double", "String", "Math", "Integer", "System", "Arrays", "Object", "null",
        "throw", "try", "catch", "synchronized", "assert", "instanceof", "static \\{", "->", "::", "\\[\\s*\\]\\s*\\["
    };

    private static int wrong = 0;

    private static void due(String what, Object got, Object want) {
        if (!got.equals(want)) {
            wrong++;
            System.out.println(what + " is " + got + ", due is " + want);
        }
    }

    public static void main(String[] args) throws IOException {
        type();
        constructors();
        methods();
        fields();
        source();
        System.out.println(wrong == 0 ? "all answers are as due" : wrong + " answers are not as due");
        if (wrong != 0) {
            System.exit(1);
        }
    }

    private static void type() {
        Class<?> c = MddBranchBound.class;
        due("the class", Modifier.toString(c.getModifiers()), "public final");
        due("the superclass", c.getSuperclass(), Object.class);
        due("the interfaces", c.getInterfaces().length, 0);
        due("the nested classes", c.getDeclaredClasses().length, 0);
    }

    private static void constructors() {
        Constructor<?>[] all = MddBranchBound.class.getDeclaredConstructors();
        due("the number of constructors", all.length, 1);
        due("the constructor", all[0].toString(), "public MddBranchBound(int,int)");
    }

    private static String signature(Method m) {
        StringBuilder types = new StringBuilder();
        for (Class<?> type : m.getParameterTypes()) {
            types.append(types.length() == 0 ? "" : ",").append(type);
        }
        return m.getReturnType() + " " + m.getName() + "(" + types + ")";
    }

    private static void methods() {
        Set<String> open = new TreeSet<>();
        Set<String> openNames = new HashSet<>();
        for (Method m : MddBranchBound.class.getDeclaredMethods()) {
            if (!Modifier.isPrivate(m.getModifiers())) {
                open.add(signature(m));
                openNames.add(m.getName());
                due(signature(m), Modifier.toString(m.getModifiers()), "public");
            }
        }
        due("the public methods", open, new TreeSet<>(Arrays.asList(METHODS)));
        for (Method m : MddBranchBound.class.getDeclaredMethods()) {
            due(signature(m) + " has a public name",
                    Modifier.isPrivate(m.getModifiers()) && openNames.contains(m.getName()), false);
            due(signature(m) + " has over seven parameters", m.getParameterCount() > 7, false);
            due(signature(m) + " answers an array", m.getReturnType().isArray(), false);
            for (Class<?> type : m.getParameterTypes()) {
                due(signature(m) + " keeps to the types", TYPES.contains(type), true);
            }
        }
    }

    private static void fields() {
        Set<String> open = new TreeSet<>();
        int held = 0;
        for (Field f : MddBranchBound.class.getDeclaredFields()) {
            int modifiers = f.getModifiers();
            if (!Modifier.isPrivate(modifiers)) {
                open.add(Modifier.toString(modifiers) + " " + f.getType() + " " + f.getName());
            }
            due(f.getName() + " keeps to the types", TYPES.contains(f.getType()), true);
            if (Modifier.isStatic(modifiers)) {
                due(f.getName() + " is a constant of int or long",
                        Modifier.isFinal(modifiers) && (f.getType() == int.class || f.getType() == long.class), true);
            } else {
                held++;
            }
        }
        due("the public fields", open, new TreeSet<>(Arrays.asList("public static final int FREE",
                "public static final int IN", "public static final int OUT")));
        due("there are over forty fields", held > 40, false);
    }

    private static void source() throws IOException {
        String text = Files.readString(Path.of("src/main/java/MddBranchBound.java"));
        String code = text.replaceAll("(?s)/\\*.*?\\*/", " ").replaceAll("//[^\n]*", " ");
        for (String word : BANNED) {
            boolean isWord = Character.isLetter(word.charAt(0)) && Character.isLetter(word.charAt(word.length() - 1));
            Pattern pattern = Pattern.compile(isWord ? "\\b" + word + "\\b" : word);
            due("the source has " + word, pattern.matcher(code).find(), false);
        }
        Matcher made = Pattern.compile("\\bnew\\b[^;]*;").matcher(code);
        while (made.find()) {
            due("an array with a constant length: " + made.group(),
                    made.group().matches("new (int|long|short|byte|char|boolean)\\[([A-Z_]+|[1-9][0-9]*)\\];"), true);
        }
    }
}
