import java.io.IOException;
import java.lang.management.ManagementFactory;
import java.lang.reflect.Array;
import java.lang.reflect.Constructor;
import java.lang.reflect.Field;
import java.lang.reflect.Method;
import java.lang.reflect.Modifier;
import java.nio.file.Files;
import java.nio.file.Path;
import java.util.ArrayList;
import java.util.Collections;
import java.util.HashSet;
import java.util.List;
import java.util.Set;
import java.util.regex.Matcher;
import java.util.regex.Pattern;

/** The public face, the rules of LANGUAGE.md that a look at the file can tell, and the room that calls need. */
final class FaceTest {
    private static final Check C = new Check("FaceTest");
    private static final String[] FACE = {
        "int drift(int)", "int fault()", "int feed(int,long)", "int forgive(int)", "int gift(int,int)", "int go(int)", "int goBack(int)",
        "int judge()", "int keep(int)", "int own(int,int,int)", "int owned(int,int)", "int palms(int,int,int,int,int)",
        "int passed(int,int,int,int)", "int person(int,int)", "int safe()", "int seating(int,int)", "int seed(int)", "int sit(int,int)",
        "int stone(int,int)", "int tear()", "int town()", "int trade(int,int,int,int)", "int write(int,int)", "long told(int)"};
    private static final String[] REFUSED = {"throw", "try", "catch", "synchronized", "assert", "import", "native", "volatile", "var"};

    public static void main(String[] args) throws IOException {
        constants();
        methods();
        constructors();
        members();
        insides();
        String code = withoutComments(Files.readString(Path.of("src/main/java/WarmStones.java")));
        words(code);
        lengths(code);
        room();
        callsMakeNoObjects();
        C.end();
    }

    private static void constants() {
        C.same("NONE", WarmStones.NONE, -1);
        C.same("UNKNOWN", WarmStones.UNKNOWN, -1000000001);
        C.same("OUTSIDE", WarmStones.OUTSIDE, -1000000002);
        C.same("NOT", WarmStones.NOT, -1000000003);
        C.same("FULL", WarmStones.FULL, -1000000004);
    }

    private static String shown(Method m) {
        List<String> types = new ArrayList<>();
        for (Class<?> type : m.getParameterTypes()) {
            types.add(type.getName());
        }
        return m.getReturnType().getName() + " " + m.getName() + "(" + String.join(",", types) + ")";
    }

    private static void methods() {
        List<String> found = new ArrayList<>();
        Set<String> names = new HashSet<>();
        for (Method m : WarmStones.class.getDeclaredMethods()) {
            if (Modifier.isPublic(m.getModifiers())) {
                found.add(shown(m));
                names.add(m.getName());
                C.holds(m.getName() + " is of the object", !Modifier.isStatic(m.getModifiers()));
            }
        }
        Collections.sort(found);
        C.same("the methods", String.join(" ", found), String.join(" ", FACE));
        for (Method m : WarmStones.class.getDeclaredMethods()) {
            if (!Modifier.isPublic(m.getModifiers())) {
                C.holds(m.getName() + " is private", Modifier.isPrivate(m.getModifiers()) || m.isSynthetic());
                C.holds(m.getName() + " is a name of its own", !names.contains(m.getName()));
            }
        }
        for (Class<?> inside : WarmStones.class.getDeclaredClasses()) {
            for (Method m : inside.getDeclaredMethods()) {
                C.holds(inside.getName() + "." + m.getName() + " is a name of its own", !names.contains(m.getName()));
            }
        }
    }

    private static void constructors() {
        Constructor<?>[] all = WarmStones.class.getDeclaredConstructors();
        C.same("constructors", all.length, 1);
        C.holds("it is public", Modifier.isPublic(all[0].getModifiers()));
        C.same("its parameters", all[0].getParameterCount(), 0);
        C.holds("the class is public and final",
            Modifier.isPublic(WarmStones.class.getModifiers()) && Modifier.isFinal(WarmStones.class.getModifiers()));
    }

    private static void members() {
        Set<String> open = new HashSet<>(List.of("NONE", "UNKNOWN", "OUTSIDE", "NOT", "FULL"));
        int fields = 0;
        for (Field f : WarmStones.class.getDeclaredFields()) {
            int how = f.getModifiers();
            fields += Modifier.isStatic(how) ? 0 : 1;
            C.holds(f.getName() + " is as the face says", open.contains(f.getName()) ? Modifier.isPublic(how) : Modifier.isPrivate(how));
            C.holds(f.getName() + " is no static state", !Modifier.isStatic(how) || Modifier.isFinal(how));
        }
        C.holds("some twenty fields at most", fields <= 20);
    }

    private static void insides() {
        Class<?>[] inside = WarmStones.class.getDeclaredClasses();
        C.holds("some twelve classes at most", inside.length < 12);
        for (Class<?> one : inside) {
            int fields = 0;
            C.holds(one.getName() + " is static", Modifier.isStatic(one.getModifiers()));
            C.holds(one.getName() + " is not public", !Modifier.isPublic(one.getModifiers()));
            for (Field f : one.getDeclaredFields()) {
                fields += Modifier.isStatic(f.getModifiers()) ? 0 : 1;
                C.holds(f.getName() + " is no static state", !Modifier.isStatic(f.getModifiers()) || Modifier.isFinal(f.getModifiers()));
            }
            C.holds(one.getName() + " has some twenty fields at most", fields <= 20);
            for (Method m : one.getDeclaredMethods()) {
                C.holds(m.getName() + " takes seven at most", m.getParameterCount() <= 7);
            }
        }
    }

    private static String withoutComments(String text) {
        return Pattern.compile("/\\*.*?\\*/|//[^\n]*|\"[^\"\n]*\"", Pattern.DOTALL).matcher(text).replaceAll("");
    }

    private static void words(String code) {
        for (String word : REFUSED) {
            C.holds("no '" + word + "'", !Pattern.compile("\\b" + word + "\\b").matcher(code).find());
        }
        C.holds("no lambda, no method reference", !code.contains("->") && !code.contains("::"));
        Matcher library = Pattern.compile("\\b([A-Z][A-Za-z]*[a-z][A-Za-z]*)\\.([a-z][A-Za-z]*)\\(").matcher(code);
        Set<String> known = Set.of("Math.min", "Math.max", "Math.abs", "Integer.bitCount", "System.arraycopy");
        while (library.find()) {
            String used = library.group(1) + "." + library.group(2);
            C.holds(used + " is in the list", known.contains(used));
        }
    }

    private static void lengths(String code) {
        int begun = 0;
        int line = 0;
        for (String one : code.split("\n", -1)) {
            line++;
            if (one.matches(" {4}(    )?[a-z].*\\) \\{")) {
                begun = line;
            }
            if (one.matches(" {4}(    )?\\}") && begun != 0) {
                C.holds("a method of sixty lines at most, at line " + begun, line - begun < 60);
                begun = 0;
            }
        }
        C.holds("methods were seen", line > 100);
    }

    // If each of a run's 512 calls made a new object, they would still have room: 600,000 objects, 7.3 million fields and elements.
    private static void room() {
        List<Object> found = new ArrayList<>();
        found.add(new WarmStones());
        long parts = 0;
        for (int at = 0; at < found.size(); at++) {
            Object one = found.get(at);
            if (one.getClass().isArray()) {
                parts += Array.getLength(one);
                for (int k = 0; one instanceof Object[] row && k < row.length; k++) {
                    add(found, row[k]);
                }
            } else {
                parts += addFields(found, one);
            }
        }
        C.holds("objects and arrays of one: " + found.size(), found.size() * 512 < 600000);
        C.holds("fields and elements of one: " + parts, parts * 512 < 7300000);
    }

    private static int addFields(List<Object> found, Object one) {
        int fields = 0;
        for (Field f : one.getClass().getDeclaredFields()) {
            if (!Modifier.isStatic(f.getModifiers())) {
                fields++;
                if (!f.getType().isPrimitive()) {
                    f.setAccessible(true);
                    try {
                        add(found, f.get(one));
                    } catch (IllegalAccessException e) {
                        C.holds(f.getName() + " can be looked at", false);
                    }
                }
            }
        }
        return fields;
    }

    private static void add(List<Object> found, Object one) {
        for (Object other : found) {
            if (other == one) {
                return;
            }
        }
        if (one != null) {
            found.add(one);
        }
    }

    private static void everyCall(WarmStones x) {
        x.feed(1, 32);
        x.fault();
        for (int what = 0; what <= 10; what++) {
            x.told(what);
        }
        x.stone(0, 3);
        x.person(0, 3);
        x.sit(0, 0);
        x.go(20);
        x.drift(20);
        x.own(0, 0, 9);
        x.trade(0, 1, 0, 1);
        x.owned(0, 0);
        x.forgive(0);
        x.seating(20, 0);
        x.passed(0, 15, 9, 1);
        x.gift(0, 9);
        x.palms(0, 9, 9, 9, 2);
        x.safe();
        x.write(0, 1);
        x.judge();
        x.tear();
        x.seed(4);
        x.keep(0);
        x.goBack(0);
        Check.feed(x, "stone 9 9 9;person fat 9 9;person miser 9 9;person fat 9 9;person miser 9 9;");
        x.town();
    }

    // All calls of a run live in one room: rows are made with the object, none by a call.
    private static void callsMakeNoObjects() {
        com.sun.management.ThreadMXBean bean = (com.sun.management.ThreadMXBean) ManagementFactory.getThreadMXBean();
        if (!bean.isThreadAllocatedMemorySupported()) {
            return;
        }
        WarmStones x = new WarmStones();
        everyCall(x);
        bean.getCurrentThreadAllocatedBytes();
        long before = bean.getCurrentThreadAllocatedBytes();
        for (int k = 0; k < 1000; k++) {
            everyCall(x);
        }
        long made = bean.getCurrentThreadAllocatedBytes() - before;
        C.holds("a thousand rounds make next to nothing: " + made, made < 50000);
    }
}
