import java.util.ArrayList;
import java.util.List;
import java.util.regex.Matcher;
import java.util.regex.Pattern;

/**
 * The document again, written another way and slowly: a token list for the text, whole nights played out for all
 * that is tried. It answers calls by name, so that a run can be put to it and to the program alike.
 */
final class Model {
    static final long NONE = -1, UNKNOWN = -1000000001, OUTSIDE = -1000000002, NOT = -1000000003, FULL = -1000000004;
    private static final List<String> KINDS = List.of("plain", "fat", "miser", "drain", "beggar");
    private static final int[] R = {8, 4, 8, 2, 8};

    static final class Stone {
        int size, k, heat;
    }

    static final class Person {
        int kind, warmth, need, seat = -1, cold, stolen, owed;
        int[] owned = new int[9];
    }

    static final class World {
        List<Stone> stones = new ArrayList<>();
        List<Person> persons = new ArrayList<>();
        int a = 3, b = 1, c = 0;
        long lost, minute, seed;

        World copy() {
            World w = new World();
            for (Stone s : stones) {
                Stone t = new Stone();
                t.size = s.size;
                t.k = s.k;
                t.heat = s.heat;
                w.stones.add(t);
            }
            for (Person p : persons) {
                Person q = new Person();
                q.kind = p.kind;
                q.warmth = p.warmth;
                q.need = p.need;
                q.seat = p.seat;
                q.cold = p.cold;
                q.stolen = p.stolen;
                q.owed = p.owed;
                q.owned = p.owned.clone();
                w.persons.add(q);
            }
            w.a = a;
            w.b = b;
            w.c = c;
            w.lost = lost;
            w.minute = minute;
            w.seed = seed;
            return w;
        }

        boolean somebodyOn(int stone) {
            for (Person p : persons) {
                if (p.seat == stone) {
                    return true;
                }
            }
            return false;
        }

        void minute() {
            for (Person p : persons) {
                int frost = a;
                if (p.seat >= 0) {
                    Stone s = stones.get(p.seat);
                    int flow = (p.warmth - s.heat) / R[p.kind];
                    if (p.kind == 2 && flow > 0) {
                        flow = 0;
                    }
                    if (p.kind == 3 && flow < 0) {
                        flow = 0;
                    }
                    if (flow > s.size - s.heat) {
                        flow = s.size - s.heat;
                    }
                    p.warmth -= flow;
                    s.heat += flow;
                    frost = b;
                    if (p.owned[p.seat] > 0) {
                        p.owned[p.seat]--;
                    } else {
                        p.stolen++;
                    }
                } else {
                    p.owed += c;
                }
                if (p.kind == 4) {
                    frost = a / 2;
                }
                int gone = frost > p.warmth ? p.warmth : frost;
                p.warmth -= gone;
                lost += gone;
                if (p.warmth < p.need) {
                    p.cold++;
                }
            }
            for (int i = 0; i < stones.size(); i++) {
                Stone s = stones.get(i);
                if (!somebodyOn(i) && s.heat > 0) {
                    int gone = s.heat / s.k;
                    if (gone == 0) {
                        gone = 1;
                    }
                    s.heat -= gone;
                    lost += gone;
                }
            }
            minute++;
        }

        int draw(int n) {
            seed = (seed * 1103515245L + 12345L) % (1L << 31);
            return (int) (seed / 65536 % n);
        }

        void moves() {
            for (Person p : persons) {
                if (draw(4) == 0) {
                    p.seat = -1;
                    int to = draw(stones.size() + 1);
                    if (to < stones.size() && !somebodyOn(to)) {
                        p.seat = to;
                    }
                }
            }
        }

        long coldSet() {
            long set = 0;
            for (int i = 0; i < persons.size(); i++) {
                if (persons.get(i).warmth < persons.get(i).need) {
                    set |= 1L << i;
                }
            }
            return set;
        }

        long coldMinutes() {
            long sum = 0;
            for (Person p : persons) {
                sum += p.cold;
            }
            return sum;
        }

        void allStand() {
            for (Person p : persons) {
                p.seat = -1;
            }
        }
    }

    World now = new World();
    private final World[] images = new World[2];
    private final StringBuilder text = new StringBuilder();
    private long faultByte = NONE;
    private final List<int[]> book = new ArrayList<>();

    long call(String name, long[] g) {
        switch (name) {
            case "feed": return feed(g[0], g[1]);
            case "town": return town();
            case "fault": return faultByte;
            case "told": return told(g[0]);
            case "stone": return stone(g[0], g[1]);
            case "person": return person(g[0], g[1]);
            case "owned": return isPerson(g[0]) && isStone(g[1]) ? p(g[0]).owned[(int) g[1]] : UNKNOWN;
            case "sit": return sit(g[0], g[1]);
            case "go": return pass(g[0], false);
            case "drift": return pass(g[0], true);
            case "own": return own(g[0], g[1], g[2]);
            case "trade": return trade(g[0], g[1], g[2], g[3]);
            case "forgive": return forgive(g[0]);
            case "seating": return seating(g[0], g[1]);
            case "passed": return passed(g[0], (int) g[1], g[2], g[3]);
            case "gift": return gift(g[0], g[1]);
            case "palms": return palms(g[0], g[1], g[2], g[3], g[4]);
            case "safe": return safe();
            case "write": return write(g[0], g[1]);
            case "tear": return tear();
            case "judge": return judge();
            case "seed": return seed(g[0]);
            case "keep": return keep(g[0]);
            case "goBack": return goBack(g[0]);
            default: throw new IllegalStateException(name);
        }
    }

    private boolean isStone(long b) {
        return b >= 0 && b < now.stones.size();
    }

    private boolean isPerson(long q) {
        return q >= 0 && q < now.persons.size();
    }

    private Person p(long q) {
        return now.persons.get((int) q);
    }

    private Stone s(long b) {
        return now.stones.get((int) b);
    }

    private static boolean in(long v, long low, long high) {
        return low <= v && v <= high;
    }

    private long feed(long n, long bytes) {
        if (!in(n, 1, 8)) {
            return OUTSIDE;
        }
        if (text.length() + n > 400) {
            return FULL;
        }
        String tail = "";
        for (int k = 0; k < n; k++) {
            tail = (char) (bytes & 255) + tail;
            bytes >>>= 8;
        }
        text.append(tail);
        return text.length();
    }

    private static final class Fault extends RuntimeException {
        private static final long serialVersionUID = 1;
        final int number, at;

        Fault(int number, int at) {
            this.number = number;
            this.at = at;
        }
    }

    private record Token(char sort, String signs, int at) {
    }

    private static List<Token> tokens(String text) {
        List<Token> row = new ArrayList<>();
        Matcher m = Pattern.compile("([a-z]+)|([0-9]+)|(;)|( +)|(.)", Pattern.DOTALL).matcher(text);
        while (m.find()) {
            if (m.group(4) == null) {
                char sort = m.group(1) != null ? 'w' : m.group(2) != null ? 'n' : m.group(3) != null ? ';' : '?';
                row.add(new Token(sort, m.group(), m.start()));
            }
        }
        row.add(new Token('e', "", text.length()));
        return row;
    }

    private static int number(Token t, int low, int high) {
        if (t.sort != 'n') {
            throw new Fault(1, t.at);
        }
        if (t.signs.length() > 4 || !in(Integer.parseInt(t.signs), low, high)) {
            throw new Fault(2, t.at);
        }
        return Integer.parseInt(t.signs);
    }

    private static World read(String text) {
        World w = new World();
        List<Token> row = tokens(text);
        int at = 0;
        boolean frost = false;
        boolean fine = false;
        while (row.get(at).sort != 'e') {
            Token first = row.get(at++);
            switch (first.signs) {
                case "stone" -> {
                    if (w.stones.size() == 9) {
                        throw new Fault(3, first.at);
                    }
                    Stone s = new Stone();
                    s.size = number(row.get(at++), 1, 9999);
                    s.k = number(row.get(at++), 2, 999);
                    s.heat = number(row.get(at++), 0, 9999);
                    if (s.heat > s.size) {
                        throw new Fault(4, row.get(at - 1).at);
                    }
                    w.stones.add(s);
                }
                case "person" -> {
                    if (w.persons.size() == 8) {
                        throw new Fault(3, first.at);
                    }
                    Person p = new Person();
                    p.kind = KINDS.indexOf(row.get(at).signs);
                    if (p.kind < 0) {
                        throw new Fault(1, row.get(at).at);
                    }
                    at++;
                    p.warmth = number(row.get(at++), 0, 9999);
                    p.need = number(row.get(at++), 0, 9999);
                    w.persons.add(p);
                }
                case "frost" -> {
                    if (frost) {
                        throw new Fault(3, first.at);
                    }
                    frost = true;
                    w.a = number(row.get(at++), 0, 99);
                    w.b = number(row.get(at++), 0, 99);
                }
                case "fine" -> {
                    if (fine) {
                        throw new Fault(3, first.at);
                    }
                    fine = true;
                    w.c = number(row.get(at++), 0, 99);
                }
                default -> throw new Fault(1, first.at);
            }
            if (row.get(at).sort != ';') {
                throw new Fault(1, row.get(at).at);
            }
            at++;
        }
        return w;
    }

    private long town() {
        String told = text.toString();
        text.setLength(0);
        try {
            World w = read(told);
            w.seed = now.seed;
            now = w;
        } catch (Fault f) {
            faultByte = f.at;
            return -10 - f.number;
        }
        faultByte = NONE;
        images[0] = null;
        images[1] = null;
        book.clear();
        return now.stones.size();
    }

    private long told(long what) {
        long all = 0;
        for (Stone s : now.stones) {
            all += s.heat;
        }
        for (Person q : now.persons) {
            all += q.warmth;
        }
        long[] answers = {now.stones.size(), now.persons.size(), text.length(), now.minute, now.lost, now.a, now.b, now.c,
            book.size(), now.coldMinutes(), all};
        return in(what, 0, 10) ? answers[(int) what] : OUTSIDE;
    }

    private long stone(long b, long what) {
        if (!isStone(b)) {
            return UNKNOWN;
        }
        long sitter = NONE;
        for (int q = 0; q < now.persons.size(); q++) {
            if (p(q).seat == b) {
                sitter = q;
            }
        }
        long[] answers = {s(b).size, s(b).k, s(b).heat, sitter};
        return in(what, 0, 3) ? answers[(int) what] : OUTSIDE;
    }

    private long person(long q, long what) {
        if (!isPerson(q)) {
            return UNKNOWN;
        }
        Person x = p(q);
        long[] answers = {x.kind, x.need, x.warmth, x.seat, x.cold, x.stolen, x.owed};
        return in(what, 0, 6) ? answers[(int) what] : OUTSIDE;
    }

    private long sit(long q, long b) {
        if (!isPerson(q) || !(b == NONE || isStone(b))) {
            return UNKNOWN;
        }
        for (int other = 0; other < now.persons.size(); other++) {
            if (other != q && b != NONE && p(other).seat == b) {
                return NOT;
            }
        }
        long before = p(q).seat;
        p(q).seat = (int) b;
        return before;
    }

    private long pass(long n, boolean byDraws) {
        if (!in(n, 1, 999)) {
            return OUTSIDE;
        }
        for (int k = 0; k < n; k++) {
            if (byDraws) {
                now.moves();
            }
            now.minute();
        }
        return now.coldSet();
    }

    private long own(long q, long b, long n) {
        if (!isPerson(q) || !isStone(b)) {
            return UNKNOWN;
        }
        if (!in(n, 1, 9999)) {
            return OUTSIDE;
        }
        return p(q).owned[(int) b] = (int) Math.min(99999, p(q).owned[(int) b] + n);
    }

    private long trade(long q, long r, long b, long n) {
        if (!isPerson(q) || !isPerson(r) || q == r || !isStone(b)) {
            return UNKNOWN;
        }
        if (!in(n, 1, 9999)) {
            return OUTSIDE;
        }
        if (p(q).owned[(int) b] < n) {
            return NOT;
        }
        if (p(r).owned[(int) b] + n > 99999) {
            return FULL;
        }
        p(r).owned[(int) b] += (int) n;
        return p(q).owned[(int) b] -= (int) n;
    }

    private long forgive(long q) {
        if (!isPerson(q)) {
            return UNKNOWN;
        }
        long owed = p(q).owed;
        p(q).owed = 0;
        p(q).stolen = 0;
        return owed;
    }

    private long seating(long m, long what) {
        int n = now.persons.size();
        if (!in(m, 1, 60) || !in(what, 0, 1 + n) && what != 0 && what != 1) {
            return OUTSIDE;
        }
        if (!in(n, 1, 4)) {
            return NOT;
        }
        int base = now.stones.size() + 1;
        long bestCold = Long.MAX_VALUE;
        long bestLeast = 0;
        int[] best = null;
        for (int code = 0; code < Math.pow(base, n); code++) {
            int[] seats = new int[n];
            int rest = code;
            for (int q = n - 1; q >= 0; q--) {
                seats[q] = rest % base - 1;
                rest /= base;
            }
            if (twoOnOne(seats)) {
                continue;
            }
            World w = now.copy();
            long before = w.coldMinutes();
            for (int q = 0; q < n; q++) {
                w.persons.get(q).seat = seats[q];
            }
            for (int k = 0; k < m; k++) {
                w.minute();
            }
            long cold = w.coldMinutes() - before;
            long least = Long.MAX_VALUE;
            for (Person q : w.persons) {
                least = Math.min(least, q.warmth);
            }
            if (cold < bestCold || cold == bestCold && least > bestLeast) {
                bestCold = cold;
                bestLeast = least;
                best = seats;
            }
        }
        return what == 0 ? bestCold : what == 1 ? bestLeast : best[(int) what - 2];
    }

    private static boolean twoOnOne(int[] seats) {
        for (int i = 0; i < seats.length; i++) {
            for (int j = 0; j < i; j++) {
                if (seats[i] >= 0 && seats[i] == seats[j]) {
                    return true;
                }
            }
        }
        return false;
    }

    private long passed(long b, int set, long m, long what) {
        boolean strange = false;
        List<Integer> who = new ArrayList<>();
        for (int k = 0; k < 32; k++) {
            if ((set & 1 << k) != 0) {
                who.add(k);
                strange |= !isPerson(k);
            }
        }
        if (!isStone(b) || strange) {
            return UNKNOWN;
        }
        if (!in(m, 1, 60) || !in(who.size(), 1, 6) || !in(what, 0, who.size())) {
            return OUTSIDE;
        }
        List<List<Integer>> orders = new ArrayList<>();
        orders(who, new ArrayList<>(), orders);
        long best = -1;
        List<Integer> first = null;
        for (List<Integer> order : orders) {
            World w = now.copy();
            w.allStand();
            for (int q : order) {
                w.persons.get(q).seat = (int) b;
                for (int k = 0; k < m; k++) {
                    w.minute();
                }
                w.persons.get(q).seat = -1;
            }
            if (w.stones.get((int) b).heat > best) {
                best = w.stones.get((int) b).heat;
                first = order;
            }
        }
        return what == 0 ? best : first.get((int) what - 1);
    }

    private static void orders(List<Integer> left, List<Integer> begun, List<List<Integer>> all) {
        if (left.isEmpty()) {
            all.add(new ArrayList<>(begun));
            return;
        }
        for (int k = 0; k < left.size(); k++) {
            List<Integer> rest = new ArrayList<>(left);
            begun.add(rest.remove(k));
            orders(rest, begun, all);
            begun.remove(begun.size() - 1);
        }
    }

    private long gift(long to, long m) {
        if (!isPerson(to)) {
            return UNKNOWN;
        }
        if (!in(m, 0, 99)) {
            return OUTSIDE;
        }
        long sum = 0;
        for (int q = 0; q < now.persons.size(); q++) {
            Person x = p(q);
            long frost = x.kind == 4 ? now.a / 2 : now.a;
            long can = x.need == 0 ? x.warmth : x.warmth - x.need - frost * m;
            sum += q == to || can < 0 ? 0 : can;
        }
        return sum;
    }

    private long palms(long b, long m, long v, long e, long i) {
        if (!isStone(b)) {
            return UNKNOWN;
        }
        if (!in(m, 1, 60) || !in(v, 0, 9999) || !in(e, 0, 9999)) {
            return OUTSIDE;
        }
        List<Integer> fit = new ArrayList<>();
        for (int q = 0; q < now.persons.size(); q++) {
            for (int j = 1; j <= m; j++) {
                World w = now.copy();
                w.allStand();
                w.persons.get(q).seat = (int) b;
                for (int k = 0; k < m; k++) {
                    if (k == j) {
                        w.allStand();
                    }
                    w.minute();
                }
                int heat = w.stones.get((int) b).heat;
                if (in(heat, v - e, v + e)) {
                    fit.add(100 * q + j);
                }
            }
        }
        return i == NONE ? fit.size() : in(i, 0, fit.size() - 1) ? fit.get((int) i) : NONE;
    }

    private long safe() {
        World w = now.copy();
        int minutes = 0;
        while (minutes < 999) {
            w.minute();
            if (w.coldSet() != 0) {
                break;
            }
            minutes++;
        }
        return minutes;
    }

    private long write(long b, long heat) {
        if (!isStone(b)) {
            return UNKNOWN;
        }
        if (!in(heat, 0, 9999)) {
            return OUTSIDE;
        }
        if (book.size() == 30) {
            return FULL;
        }
        book.add(new int[] {(int) b, (int) heat});
        return book.size();
    }

    private long tear() {
        long had = book.size();
        book.clear();
        return had;
    }

    private long judge() {
        for (int j = 0; j < book.size(); j++) {
            World w = now.copy();
            for (int k = 0; k < j; k++) {
                w.minute();
            }
            if (w.stones.get(book.get(j)[0]).heat != book.get(j)[1]) {
                return j;
            }
        }
        return NONE;
    }

    private long seed(long v) {
        if (v < 0) {
            return OUTSIDE;
        }
        long before = now.seed;
        now.seed = v;
        return before;
    }

    private long keep(long i) {
        if (!in(i, 0, 1)) {
            return UNKNOWN;
        }
        images[(int) i] = now.copy();
        return 1;
    }

    private long goBack(long i) {
        if (!in(i, 0, 1)) {
            return UNKNOWN;
        }
        if (images[(int) i] == null) {
            return NOT;
        }
        now = images[(int) i].copy();
        return 1;
    }
}
