import java.io.IOException;
import java.lang.reflect.Method;
import java.lang.reflect.Modifier;
import java.nio.file.Files;
import java.nio.file.Path;
import java.util.List;
import java.util.Set;
import java.util.TreeSet;
import java.util.regex.Matcher;
import java.util.regex.Pattern;
import java.util.stream.Stream;

/** Makes the objects and the calls that README.md shows, and compares the answers that stand behind them. */
public final class ReadmeTest {
    private static final Pattern MADE =
            Pattern.compile("MddBranchBound x = new MddBranchBound\\((-?\\d+), (-?\\d+)\\);( +// .+)?");
    private static final Pattern CALL =
            Pattern.compile("x\\.(\\w+)\\((.*)\\); +// (-?\\d+)(?: = \\{([\\d, ]*)\\})?(?:[:,] .+)?");

    private static int wrong = 0;
    private static final Set<String> called = new TreeSet<>();

    private static void fault(String what) {
        wrong++;
        System.out.println(what);
    }

    public static void main(String[] args) throws IOException, ReflectiveOperationException {
        List<String> lines = Files.readAllLines(Path.of("README.md"));
        runBlocks(lines);
        everyMethodIsShown();
        everyTestIsNamed(String.join("\n", lines));
        System.out.println(wrong == 0 ? "all answers are as due" : wrong + " answers are not as due");
        if (wrong != 0) {
            System.exit(1);
        }
    }

    private static void runBlocks(List<String> lines) throws ReflectiveOperationException {
        boolean inside = false;
        MddBranchBound x = null;
        for (String line : lines) {
            if (line.startsWith("```")) {
                inside = line.equals("```java");
                x = null;
                continue;
            }
            if (!inside) {
                continue;
            }
            Matcher made = MADE.matcher(line);
            Matcher call = CALL.matcher(line);
            if (made.matches()) {
                x = new MddBranchBound(Integer.parseInt(made.group(1)), Integer.parseInt(made.group(2)));
            } else if (x != null && call.matches()) {
                runCall(x, line, call);
            } else {
                // A line that can't be run would be shown without being tested.
                fault("README.md: neither a new object nor a call with its answer: " + line);
            }
        }
    }

    private static void runCall(MddBranchBound x, String line, Matcher call) throws ReflectiveOperationException {
        String[] given = call.group(2).isEmpty() ? new String[0] : call.group(2).split(", ");
        Class<?>[] types = new Class<?>[given.length];
        Object[] values = new Object[given.length];
        for (int i = 0; i < given.length; i++) {
            types[i] = int.class;
            values[i] = valueOf(given[i]);
        }
        Object got = MddBranchBound.class.getMethod(call.group(1), types).invoke(x, values);
        called.add(call.group(1));
        int shown = Integer.parseInt(call.group(3));
        if (!got.equals(shown)) {
            fault("README.md: " + line + " answered " + got);
        }
        if (call.group(4) != null && numberOf(call.group(4)) != shown) {
            fault("README.md: the set behind this call is " + numberOf(call.group(4)) + ": " + line);
        }
    }

    private static int valueOf(String word) throws ReflectiveOperationException {
        String before = "MddBranchBound.";
        if (word.startsWith(before)) {
            return MddBranchBound.class.getField(word.substring(before.length())).getInt(null);
        }
        return Integer.parseInt(word);
    }

    private static int numberOf(String members) {
        int sum = 0;
        for (String member : members.split(", ")) {
            sum += member.isEmpty() ? 0 : 1 << Integer.parseInt(member);
        }
        return sum;
    }

    private static void everyMethodIsShown() {
        for (Method m : MddBranchBound.class.getDeclaredMethods()) {
            if (Modifier.isPublic(m.getModifiers()) && !called.contains(m.getName())) {
                fault("README.md shows no call of " + m.getName());
            }
        }
    }

    private static void everyTestIsNamed(String text) throws IOException {
        Set<String> named = new TreeSet<>();
        Matcher name = Pattern.compile("(?m)^- `(\\w+)`: ").matcher(text);
        while (name.find()) {
            named.add(name.group(1) + ".java");
        }
        Set<String> there = new TreeSet<>();
        try (Stream<Path> tests = Files.list(Path.of("src/test/java"))) {
            tests.forEach(test -> there.add(test.getFileName().toString()));
        }
        if (!named.equals(there)) {
            fault("README.md names the tests " + named + ", there are " + there);
        }
    }
}
