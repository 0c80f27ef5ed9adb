import java.io.IOException;
import java.lang.reflect.Method;
import java.lang.reflect.Modifier;
import java.nio.file.Files;
import java.nio.file.Path;
import java.util.HashSet;
import java.util.Map;
import java.util.Set;
import java.util.regex.Matcher;
import java.util.regex.Pattern;

/** README.md tells a run with its answers: they are the ones that the program gives. */
final class ReadmeTest {
    private static final Check C = new Check("ReadmeTest");
    private static final Map<String, Integer> NAMES = Map.of("NONE", WarmStones.NONE, "UNKNOWN", WarmStones.UNKNOWN,
        "OUTSIDE", WarmStones.OUTSIDE, "NOT", WarmStones.NOT, "FULL", WarmStones.FULL);
    private static final Pattern CALL = Pattern.compile("x\\.(\\w+)\\(([^)]*)\\); +// (-?\\w+)(:.*)?");
    private static final Pattern FEED = Pattern.compile("feed\\(x, \"([^\"]*)\"\\);");

    public static void main(String[] args) throws IOException {
        String page = Files.readString(Path.of("README.md"));
        Set<String> called = run(page);
        everyCallIsToldOf(page, called);
        C.end();
    }

    private static Set<String> run(String page) {
        Set<String> called = new HashSet<>();
        WarmStones x = null;
        for (String line : page.split("\n")) {
            Matcher feed = FEED.matcher(line);
            Matcher call = CALL.matcher(line);
            if (line.equals("WarmStones x = new WarmStones();")) {
                x = new WarmStones();
            } else if (feed.matches()) {
                Check.feed(x, feed.group(1));
            } else if (call.matches()) {
                called.add(call.group(1));
                C.same(line, Check.call(x, call.group(1), numbers(call.group(2))), number(call.group(3)));
            } else {
                C.holds("a line of the run that is not understood: " + line, !line.startsWith("x."));
            }
        }
        return called;
    }

    private static void everyCallIsToldOf(String page, Set<String> called) {
        for (Method m : WarmStones.class.getDeclaredMethods()) {
            if (Modifier.isPublic(m.getModifiers())) {
                C.holds(m.getName() + " is told of", page.contains("`" + m.getName() + "("));
            }
        }
        C.holds("most calls are in the run: " + called, called.size() >= 20);
    }

    private static long[] numbers(String list) {
        if (list.isEmpty()) {
            return new long[0];
        }
        String[] parts = list.split(", ");
        long[] row = new long[parts.length];
        for (int k = 0; k < parts.length; k++) {
            row[k] = number(parts[k]);
        }
        return row;
    }

    private static long number(String told) {
        Integer named = NAMES.get(told);
        return named != null ? named : Long.parseLong(told);
    }
}
