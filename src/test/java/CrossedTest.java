import java.util.ArrayList;
import java.util.List;

/**
 * Every call with all of its arguments at their boundaries, crossed with each other, in towns from none to full: held
 * against the slow model of the document. No call throws, and each answer is as due.
 */
final class CrossedTest {
    private static final Check C = new Check("CrossedTest");
    private static final long LOWEST = Integer.MIN_VALUE, HIGHEST = Integer.MAX_VALUE;
    private static final int CALLS_OF_ONE_OBJECT = 400;
    private static final String[] TOWNS = {
        "",
        "person fat 9 9;person drain 90 0;",
        "stone 9 9 9;stone 90 2 1;",
        "stone 9 2 9;person drain 20 10;",
        "frost 9 3;fine 99;stone 300 2 90;stone 9999 999 9999;person miser 50 60;person plain 300 300;person beggar 0 1;person drain 9999 0;",
        "frost 99 0;fine 1;" + "stone 30 3 20;".repeat(9) + "person plain 90 45;".repeat(5) + "person fat 25 5;".repeat(3)};

    private static WarmStones x;
    private static Model model;
    private static String town;
    private static int count;

    public static void main(String[] args) {
        for (String text : TOWNS) {
            town = text;
            x = null;
            lookups();
            minutes();
            tried();
            books();
        }
        C.end();
    }

    private static void lookups() {
        long[] what = {LOWEST, -2, -1, 0, 1, 2, 3, 4, 5, 6, 7, 8, 9, 10, 11, 12, HIGHEST};
        cross("told", what);
        cross("stone", stones(), what);
        cross("person", persons(), what);
        cross("owned", persons(), stones());
        cross("fault");
        cross("feed", new long[] {LOWEST, -1, 0, 1, 7, 8, 9, HIGHEST}, new long[] {Long.MIN_VALUE, -1, 0, 32, Long.MAX_VALUE});
    }

    private static void minutes() {
        long[] n = {LOWEST, -1, 0, 1, 999, 1000, HIGHEST};
        long[] owned = {LOWEST, -1, 0, 1, 9999, 10000, HIGHEST};
        cross("go", n);
        cross("drift", n);
        cross("sit", persons(), stones());
        cross("own", persons(), stones(), owned);
        cross("trade", persons(), persons(), stones(), owned);
        cross("forgive", persons());
    }

    private static void tried() {
        long[] m = {LOWEST, -1, 0, 1, 60, 61, HIGHEST};
        long[] v = {LOWEST, -1, 0, 20, 9999, 10000, HIGHEST};
        long[] i = {LOWEST, -2, -1, 0, 1, 59, 60, HIGHEST};
        cross("seating", m, new long[] {LOWEST, -1, 0, 1, 2, 3, 4, 5, 6, 7, 9, 10, HIGHEST});
        cross("passed", few(stones()), sets(), m, new long[] {LOWEST, -1, 0, 1, 2, 6, 7, HIGHEST});
        cross("gift", persons(), new long[] {LOWEST, -1, 0, 1, 99, 100, HIGHEST});
        cross("palms", few(stones()), m, v, v, i);
        cross("safe");
    }

    private static void books() {
        cross("write", stones(), new long[] {LOWEST, -1, 0, 9, 9999, 10000, HIGHEST});
        cross("judge");
        cross("tear");
        cross("seed", new long[] {LOWEST, -1, 0, 1, HIGHEST});
        cross("keep", new long[] {LOWEST, -1, 2, 32, HIGHEST});
        cross("goBack", new long[] {LOWEST, -1, 0, 1, 2, 32, HIGHEST});
    }

    private static long[] numbers(int most, String word) {
        int there = town.split(word + " ", -1).length - 1;
        return new long[] {LOWEST, -2, -1, 0, there - 1, there, most, most + 1, HIGHEST};
    }

    private static long[] stones() {
        return numbers(9, "stone");
    }

    private static long[] persons() {
        return numbers(8, "person");
    }

    private static long[] few(long[] row) {
        return new long[] {-1, 0, row[4], row[5], HIGHEST};
    }

    private static long[] sets() {
        long there = persons()[5];
        long all = (1L << there) - 1;
        return new long[] {LOWEST, -1, 0, 1, all & 6, all & 63, all & 127, all, all + 1, HIGHEST};
    }

    private static void cross(String name, long[]... choices) {
        List<long[]> rows = new ArrayList<>();
        rows.add(new long[choices.length]);
        for (int k = 0; k < choices.length; k++) {
            List<long[]> longer = new ArrayList<>();
            for (long[] row : rows) {
                for (long choice : choices[k]) {
                    long[] next = row.clone();
                    next[k] = choice;
                    longer.add(next);
                }
            }
            rows = longer;
        }
        for (long[] row : rows) {
            both(name, row);
        }
    }

    private static void both(String name, long[] g) {
        if (x == null || count >= CALLS_OF_ONE_OBJECT) {
            begin();
        }
        count++;
        StringBuilder shown = new StringBuilder(town).append(' ').append(name);
        for (long one : g) {
            shown.append(' ').append(one);
        }
        C.same(shown.toString(), Check.call(x, name, g), model.call(name, g));
    }

    // Somebody sits, owns, has been cold, is kept, is written of: a call that goes wrong has something to spoil.
    private static void begin() {
        x = new WarmStones();
        model = new Model();
        count = 0;
        Check.feed(x, town);
        for (char sign : town.toCharArray()) {
            model.call("feed", new long[] {1, sign});
        }
        plain("town");
        plain("sit", 0, 0);
        plain("sit", 1, 1);
        plain("own", 0, 0, 5);
        plain("go", 2);
        plain("keep", 0);
        plain("drift", 3);
        plain("write", 0, 9);
    }

    private static void plain(String name, long... g) {
        Check.call(x, name, g);
        model.call(name, g);
    }
}
