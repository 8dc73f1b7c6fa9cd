import java.lang.reflect.Constructor;
import java.lang.reflect.Field;
import java.lang.reflect.Method;
import java.lang.reflect.Modifier;
import java.util.Arrays;
import java.util.Set;
import java.util.TreeSet;

/** The public face of the document, and no other member that can be seen from outside. */
public final class FaceTest {
    private static final String[] METHODS = {
        "int vertices()", "int edge(int,int,int)", "int chain(int,int,int)", "int weigh(int,int)",
        "int force(int,int)", "int neighbours(int)", "int possible()", "int best()", "int bestSet()",
        "int bestWith(int)", "int bestWithout(int)", "int allowedSets()", "int bestSets()",
        "int atLeast(int)", "int alpha()", "int leastCover()"
    };
    private static final String[] CONSTANTS = {
        "public static final int FREE = 0", "public static final int IN = 1", "public static final int OUT = 2"
    };

    private static int wrong = 0;

    private static void due(String what, Object got, Object want) {
        if (!got.equals(want)) {
            wrong++;
            System.out.println(what + " is " + got + ", due is " + want);
        }
    }

    public static void main(String[] args) throws IllegalAccessException {
        type();
        constructors();
        methods();
        constants();
        System.out.println(wrong == 0 ? "all answers are as due" : wrong + " answers are not as due");
        if (wrong != 0) {
            System.exit(1);
        }
    }

    private static void type() {
        Class<?> c = MddBranchBound.class;
        due("the class", c.getName(), "MddBranchBound");
        due("the kind of class", Modifier.toString(c.getModifiers()), "public final");
        due("the superclass", c.getSuperclass(), Object.class);
        due("the number of interfaces", c.getInterfaces().length, 0);
        due("the number of nested classes", c.getDeclaredClasses().length, 0);
    }

    private static void constructors() {
        Constructor<?>[] all = MddBranchBound.class.getDeclaredConstructors();
        due("the number of constructors", all.length, 1);
        due("the constructor", all[0].toGenericString(), "public MddBranchBound(int,int)");
    }

    private static String signature(Method m) {
        StringBuilder types = new StringBuilder();
        for (Class<?> type : m.getParameterTypes()) {
            types.append(types.length() == 0 ? "" : ",").append(type);
        }
        return m.getReturnType() + " " + m.getName() + "(" + types + ")";
    }

    private static void methods() {
        Set<String> open = new TreeSet<>();
        for (Method m : MddBranchBound.class.getDeclaredMethods()) {
            if (!Modifier.isPrivate(m.getModifiers())) {
                open.add(signature(m));
                due(signature(m), Modifier.toString(m.getModifiers()), "public");
            }
        }
        due("the set of open methods", open, new TreeSet<>(Arrays.asList(METHODS)));
    }

    private static void constants() throws IllegalAccessException {
        Set<String> open = new TreeSet<>();
        for (Field f : MddBranchBound.class.getDeclaredFields()) {
            if (!Modifier.isPrivate(f.getModifiers())) {
                String value = Modifier.isStatic(f.getModifiers()) ? " = " + f.get(null) : "";
                open.add(Modifier.toString(f.getModifiers()) + " " + f.getType() + " " + f.getName() + value);
            }
        }
        due("the set of open fields", open, new TreeSet<>(Arrays.asList(CONSTANTS)));
    }
}
