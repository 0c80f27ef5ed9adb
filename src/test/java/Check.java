/** What the tests share: counting wrong answers, feeding a text, and all that can be seen of an object. */
final class Check {
    private final String name;
    private int made;
    private int wrong;

    Check(String name) {
        this.name = name;
    }

    void same(String what, long got, long want) {
        made++;
        if (got != want) {
            wrong++;
            if (wrong <= 40) {
                System.out.println(name + ": " + what + " answered " + got + ", due is " + want);
            }
        }
    }

    void same(String what, String got, String want) {
        made++;
        if (!got.equals(want)) {
            wrong++;
            if (wrong <= 40) {
                System.out.println(name + ": " + what + "\n  answered " + got + "\n  due is   " + want);
            }
        }
    }

    void holds(String what, boolean so) {
        same(what, so ? 1 : 0, 1);
    }

    /** A text without a fault: the town that it tells. */
    WarmStones good(String text, int stones, int persons) {
        WarmStones x = new WarmStones();
        same("stones of " + text, tell(x, text), stones);
        same("fault of " + text, x.fault(), WarmStones.NONE);
        same("persons of " + text, x.told(1), persons);
        return x;
    }

    /** A text with this fault, at this byte. */
    void bad(String text, int fault, int at) {
        WarmStones x = new WarmStones();
        same("fault of " + text, tell(x, text), -10 - fault);
        same("fault's byte in " + text, x.fault(), at);
        same("text behind the fault in " + text, x.told(2), 0);
    }

    int wrong() {
        return wrong;
    }

    void end() {
        System.out.println(name + ": " + made + " looked at, " + wrong + " wrong");
        if (wrong != 0 || made == 0) {
            System.exit(1);
        }
    }

    static void feed(WarmStones x, String text) {
        for (int at = 0; at < text.length(); at += 8) {
            int n = Math.min(8, text.length() - at);
            long bytes = 0;
            for (int k = 0; k < n; k++) {
                bytes = bytes << 8 | text.charAt(at + k) & 255;
            }
            x.feed(n, bytes);
        }
    }

    static int tell(WarmStones x, String text) {
        feed(x, text);
        return x.town();
    }

    static WarmStones told(String text) {
        WarmStones x = new WarmStones();
        int stones = tell(x, text);
        if (stones < 0) {
            throw new IllegalStateException("a test's own text has a fault: " + text);
        }
        return x;
    }

    /** A call by its name, as the model takes it, too. */
    static long call(WarmStones x, String name, long[] g) {
        int[] i = new int[5];
        for (int k = 0; k < g.length; k++) {
            i[k] = (int) g[k];
        }
        switch (name) {
            case "feed": return x.feed(i[0], g[1]);
            case "town": return x.town();
            case "fault": return x.fault();
            case "told": return x.told(i[0]);
            case "stone": return x.stone(i[0], i[1]);
            case "person": return x.person(i[0], i[1]);
            case "owned": return x.owned(i[0], i[1]);
            case "sit": return x.sit(i[0], i[1]);
            case "go": return x.go(i[0]);
            case "drift": return x.drift(i[0]);
            case "own": return x.own(i[0], i[1], i[2]);
            case "trade": return x.trade(i[0], i[1], i[2], i[3]);
            case "forgive": return x.forgive(i[0]);
            case "seating": return x.seating(i[0], i[1]);
            case "passed": return x.passed(i[0], i[1], i[2], i[3]);
            case "gift": return x.gift(i[0], i[1]);
            case "palms": return x.palms(i[0], i[1], i[2], i[3], i[4]);
            case "safe": return x.safe();
            case "write": return x.write(i[0], i[1]);
            case "tear": return x.tear();
            case "judge": return x.judge();
            case "seed": return x.seed(i[0]);
            case "keep": return x.keep(i[0]);
            case "goBack": return x.goBack(i[0]);
            default: throw new IllegalStateException(name);
        }
    }

    static String seen(WarmStones x) {
        StringBuilder all = new StringBuilder("told");
        for (int what = 0; what <= 10; what++) {
            all.append(' ').append(x.told(what));
        }
        all.append(" fault ").append(x.fault());
        int seed = x.seed(0);
        x.seed(seed);
        all.append(" seed ").append(seed);
        for (int b = 0; b < x.told(0); b++) {
            all.append("; stone");
            for (int what = 0; what <= 3; what++) {
                all.append(' ').append(x.stone(b, what));
            }
        }
        for (int p = 0; p < x.told(1); p++) {
            all.append("; person");
            for (int what = 0; what <= 6; what++) {
                all.append(' ').append(x.person(p, what));
            }
            all.append(" owns");
            for (int b = 0; b < x.told(0); b++) {
                all.append(' ').append(x.owned(p, b));
            }
        }
        return all.toString();
    }
}
