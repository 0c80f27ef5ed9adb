import java.util.Random;

/** Long runs of drawn calls, put to the program and to the slow model of the document alike. */
final class RandomRunsTest {
    private static final Check C = new Check("RandomRunsTest");
    private static final String[] KINDS = {"plain", "fat", "miser", "drain", "beggar"};
    private static final String[] CALLS = {"feed", "town", "told", "stone", "person", "owned", "sit", "sit", "sit", "sit", "go", "go",
        "drift", "own", "trade", "forgive", "seating", "passed", "gift", "palms", "safe", "write", "write", "tear", "judge", "seed",
        "keep", "goBack"};
    private static final String[] SCRAPS = {" ", ";", "stone", "person", "frost", "fine", "plain", "fat", "0", "1", "9", "10000",
        "99999", "x", "#", "\t", "" + (char) 200, "Z", "00"};
    private static final int[] ODD = {-1, 0, 1, 2, 9, 60, 61, 99, 100, 999, 1000, 9999, 10000, -2, Integer.MIN_VALUE, Integer.MAX_VALUE};

    private static Random draws;
    private static WarmStones x;
    private static Model model;
    private static int run;
    private static int count;

    public static void main(String[] args) {
        for (run = 0; run < 400 && C.wrong() == 0; run++) {
            draws = new Random(run);
            x = new WarmStones();
            model = new Model();
            count = 0;
            tell(run % 5 == 4 ? "" : townText(run % 3 == 0));
            while (count < 500 && C.wrong() == 0) {
                step();
            }
        }
        for (run = 1000; run < 1120 && C.wrong() == 0; run++) {
            draws = new Random(run);
            x = new WarmStones();
            model = new Model();
            count = 0;
            for (int k = 0; k < 20; k++) {
                String text = spoiled(townText(k % 2 == 0));
                tell(text.substring(0, Math.min(400, text.length())));
            }
        }
        for (run = 2000; run < 2300 && C.wrong() == 0; run++) {
            passAlong();
        }
        C.end();
    }

    // The dearest search, at its widest: six persons, long turns.
    private static void passAlong() {
        draws = new Random(run);
        x = new WarmStones();
        model = new Model();
        int most = run % 2 == 0 ? 200 : 10000;
        StringBuilder text = new StringBuilder("frost " + draws.nextInt(12) + " " + draws.nextInt(6) + ";");
        int size = 1 + draws.nextInt(most - 1);
        text.append("stone " + size + " 9 " + draws.nextInt(size + 1) + ";");
        for (int k = 0; k < 8; k++) {
            text.append("person " + KINDS[draws.nextInt(5)] + " " + draws.nextInt(most) + " 0;");
        }
        tell(text.toString());
        int set = 255;
        while (Integer.bitCount(set) > 6 - run % 3) {
            set &= ~(1 << draws.nextInt(8));
        }
        int m = draws.nextInt(4) == 0 ? 1 + draws.nextInt(60) : 1 + draws.nextInt(5);
        for (int what = 0; what <= Integer.bitCount(set); what++) {
            ask("passed", new long[] {0, set, m, what});
        }
    }

    private static void step() {
        String name = CALLS[draws.nextInt(CALLS.length)];
        if (name.equals("town")) {
            // A new town now and then only, so that nights grow long.
            if (draws.nextInt(8) == 0) {
                tell(draws.nextInt(3) == 0 ? spoiled(townText(true)) : townText(draws.nextBoolean()));
            }
            return;
        }
        ask(name, arguments(name));
        if (draws.nextInt(6) == 0) {
            lookAtAll();
        }
    }

    private static void tell(String text) {
        for (int at = 0; at < text.length(); at += 8) {
            int n = Math.min(8, text.length() - at);
            long bytes = draws.nextLong();
            for (int k = 0; k < n; k++) {
                bytes = bytes << 8 | text.charAt(at + k) & 255;
            }
            ask("feed", new long[] {n, bytes});
        }
        ask("town", new long[0]);
        ask("fault", new long[0]);
        lookAtAll();
    }

    private static void lookAtAll() {
        for (int what = 0; what <= 10; what++) {
            same("told", new long[] {what});
        }
        for (int b = 0; b < model.now.stones.size(); b++) {
            for (int what = 0; what <= 3; what++) {
                same("stone", new long[] {b, what});
            }
        }
        for (int p = 0; p < model.now.persons.size(); p++) {
            for (int what = 0; what <= 6; what++) {
                same("person", new long[] {p, what});
            }
            for (int b = 0; b < model.now.stones.size(); b++) {
                same("owned", new long[] {p, b});
            }
        }
    }

    private static void ask(String name, long[] g) {
        count++;
        same(name, g);
    }

    private static void same(String name, long[] g) {
        StringBuilder shown = new StringBuilder("run " + run + ", call " + count + ": " + name);
        for (long one : g) {
            shown.append(' ').append(one);
        }
        C.same(shown.toString(), Check.call(x, name, g), model.call(name, g));
    }

    private static long[] arguments(String name) {
        switch (name) {
            case "feed": return new long[] {or(draws.nextInt(10)), draws.nextLong()};
            case "told": return new long[] {or(draws.nextInt(12))};
            case "stone": return new long[] {stone(), or(draws.nextInt(4))};
            case "person": return new long[] {person(), or(draws.nextInt(7))};
            case "owned": return new long[] {person(), stone()};
            case "sit": return new long[] {person(), draws.nextInt(4) == 0 ? -1 : stone()};
            case "go": return new long[] {or(minutes())};
            case "drift": return new long[] {or(minutes())};
            case "own": return new long[] {person(), stone(), or(draws.nextInt(3) == 0 ? 9999 : 1 + draws.nextInt(40))};
            case "trade": return new long[] {person(), person(), stone(), or(1 + draws.nextInt(30))};
            case "forgive": return new long[] {person()};
            case "seating": return new long[] {or(1 + draws.nextInt(9)), or(draws.nextInt(7))};
            case "passed": return new long[] {stone(), set(), or(1 + draws.nextInt(7)), or(draws.nextInt(5))};
            case "gift": return new long[] {person(), or(draws.nextInt(20))};
            case "palms": return new long[] {stone(), or(1 + draws.nextInt(12)), or(nearHeat()), or(draws.nextInt(60)),
                or(draws.nextInt(12) - 1)};
            case "write": return writing();
            case "seed": return new long[] {or(draws.nextInt() >>> 1)};
            case "keep":
            case "goBack": return new long[] {or(draws.nextInt(2))};
            default: return new long[0];
        }
    }

    // Mostly what was meant, now and then an odd number.
    private static int or(int meant) {
        return draws.nextInt(12) == 0 ? ODD[draws.nextInt(ODD.length)] : meant;
    }

    private static int stone() {
        return or(draws.nextInt(Math.max(1, model.now.stones.size())));
    }

    private static int person() {
        return or(draws.nextInt(Math.max(1, model.now.persons.size())));
    }

    private static int minutes() {
        return draws.nextInt(20) == 0 ? 1 + draws.nextInt(999) : 1 + draws.nextInt(6);
    }

    private static int set() {
        int n = model.now.persons.size();
        int meant = draws.nextInt(1 << n);
        // Sets of six are dear in the model, so they come seldom.
        if (Integer.bitCount(meant) == 6 && draws.nextInt(4) != 0) {
            meant &= meant - 1;
        }
        return or(meant);
    }

    private static int nearHeat() {
        int n = model.now.stones.size();
        return n == 0 ? 5 : Math.max(0, model.now.stones.get(draws.nextInt(n)).heat + draws.nextInt(41) - 20);
    }

    // An entry that is right, if the book is judged at once: else no book would be right to its end.
    private static long[] writing() {
        int n = model.now.stones.size();
        if (n == 0 || draws.nextInt(6) == 0) {
            return new long[] {stone(), or(draws.nextInt(100))};
        }
        Model.World w = model.now.copy();
        long entries = model.call("told", new long[] {8});
        for (int k = 0; k < entries; k++) {
            w.minute();
        }
        int b = draws.nextInt(n);
        return new long[] {b, w.stones.get(b).heat};
    }

    private static String townText(boolean small) {
        StringBuilder text = new StringBuilder();
        int most = small ? 99 : 9999;
        int stones = draws.nextInt(small ? 4 : 10);
        int persons = draws.nextInt(small ? 5 : 9);
        if (stones > 3 && persons <= 4) {
            stones = 3;
        }
        if (draws.nextInt(3) != 0) {
            text.append("frost ").append(draws.nextInt(small ? 9 : 100)).append(' ').append(draws.nextInt(small ? 5 : 100)).append(';');
        }
        for (int k = 0; k < stones; k++) {
            int size = 1 + draws.nextInt(most);
            text.append("stone ").append(size).append(' ').append(2 + draws.nextInt(draws.nextBoolean() ? 10 : 998)).append(' ')
                .append(draws.nextInt(size + 1)).append(';');
        }
        for (int k = 0; k < persons; k++) {
            int need = draws.nextInt(3) == 0 ? 0 : draws.nextInt(most + 1);
            text.append("person ").append(KINDS[draws.nextInt(5)]).append(' ').append(draws.nextInt(most + 1)).append(' ').append(need)
                .append(';');
        }
        if (draws.nextBoolean()) {
            text.append(" fine ").append(draws.nextInt(100)).append(" ; ");
        }
        return text.toString();
    }

    private static String spoiled(String text) {
        StringBuilder other = new StringBuilder(text);
        int times = 1 + draws.nextInt(2);
        for (int k = 0; k < times; k++) {
            int at = draws.nextInt(other.length() + 1);
            switch (draws.nextInt(4)) {
                case 0 -> other.insert(at, SCRAPS[draws.nextInt(SCRAPS.length)]);
                case 1 -> other.delete(at, Math.min(other.length(), at + 1 + draws.nextInt(3)));
                case 2 -> other.setLength(at);
                default -> other.insert(at, text);
            }
        }
        return other.toString();
    }
}
