import java.util.function.Supplier;
import java.util.function.ToLongFunction;

/**
 * "What is refused changes nothing", and "REFUSALS, of several the first in this order": each call that can be refused is
 * made on an object, and all that can be found out of it then is held against a twin on which the call was not made.
 */
final class RefusedTest {
    private static final Check C = new Check("RefusedTest");
    private static final int NONE = WarmStones.NONE, UNKNOWN = WarmStones.UNKNOWN, OUTSIDE = WarmStones.OUTSIDE;
    private static final int NOT = WarmStones.NOT, FULL = WarmStones.FULL;
    private static final int LOWEST = Integer.MIN_VALUE, HIGHEST = Integer.MAX_VALUE;
    private static final int[] NO_STONE = {LOWEST, -2, 3, 9, HIGHEST};
    private static final int[] NO_PERSON = {LOWEST, -2, -1, 3, 8, HIGHEST};
    private static final int[] NO_MINUTES = {LOWEST, -1, 0, 10000, HIGHEST};

    public static void main(String[] args) {
        feed();
        told();
        stoneAndPerson();
        owned();
        sit();
        goAndDrift();
        own();
        trade();
        forgive();
        seating();
        passed();
        gift();
        palms();
        write();
        seed();
        images();
        onANewObject();
        C.end();
    }

    // Three STONES, three PERSONS; image 0 kept, image 1 not; a text begun, a book written.
    private static WarmStones lively() {
        WarmStones x = Check.told("frost 6 2;fine 5;stone 500 20 300;stone 200 10 0;stone 90 3 90;person plain 400 390;person fat 900 0;"
            + "person beggar 77 80;");
        x.sit(0, 0);
        x.own(0, 0, 9);
        x.own(1, 1, 20);
        x.seed(77);
        x.go(4);
        x.keep(0);
        x.drift(2);
        x.sit(0, NONE);
        x.sit(1, NONE);
        x.sit(2, NONE);
        x.sit(0, 0);
        x.sit(1, 2);
        x.write(0, x.stone(0, 2));
        x.write(1, 0);
        x.write(2, 1);
        Check.feed(x, "stone 7 7 7;person fat 5 5;");
        return x;
    }

    private static WarmStones withFullText() {
        WarmStones x = lively();
        Check.feed(x, " ".repeat(400 - 27 - 3) + "x y");
        return x;
    }

    private static WarmStones withFullBook() {
        WarmStones x = Check.told("stone 9 9 0;stone 9 2 0;");
        for (int k = 0; k < 30; k++) {
            x.write(k % 2, 0);
        }
        return x;
    }

    // PERSON 1 owns all it may of STONE 2, PERSON 0 five minutes.
    private static WarmStones withFullOwner() {
        WarmStones x = lively();
        for (int k = 0; k < 11; k++) {
            x.own(1, 2, 9999);
        }
        x.own(0, 2, 5);
        return x;
    }

    // All that can be found out of an object; it is of no use any more then.
    private static String all(WarmStones x) {
        StringBuilder found = new StringBuilder(Check.seen(x));
        found.append("\n judge ").append(x.judge()).append(" safe ").append(x.safe());
        for (int i = 0; i < 2; i++) {
            found.append("\n image ").append(x.goBack(i)).append(' ').append(Check.seen(x));
        }
        return found.append("\n text ").append(x.town()).append(' ').append(Check.seen(x)).toString();
    }

    private static void refused(String what, Supplier<WarmStones> making, ToLongFunction<WarmStones> call, int due) {
        WarmStones x = making.get();
        C.same(what, call.applyAsLong(x), due);
        C.same(what + " changes nothing", all(x), all(making.get()));
    }

    private static void refused(String what, ToLongFunction<WarmStones> call, int due) {
        refused(what, RefusedTest::lively, call, due);
    }

    private static void feed() {
        for (int n : new int[] {LOWEST, -1, 0, 9, HIGHEST}) {
            refused("feed " + n, x -> x.feed(n, -1), OUTSIDE);
            refused("feed " + n + ": OUTSIDE ahead of FULL", RefusedTest::withFullText, x -> x.feed(n, -1), OUTSIDE);
        }
        for (int n = 1; n <= 8; n++) {
            int bytes = n;
            refused("feed " + n, RefusedTest::withFullText, x -> x.feed(bytes, 0x2020202020202020L), FULL);
        }
    }

    private static void told() {
        for (int what : new int[] {LOWEST, -1, 11, HIGHEST}) {
            refused("told " + what, x -> x.told(what), OUTSIDE);
        }
    }

    private static void stoneAndPerson() {
        for (int b : NO_STONE) {
            refused("stone " + b, x -> x.stone(b, 0), UNKNOWN);
            refused("stone " + b + ": UNKNOWN ahead of OUTSIDE", x -> x.stone(b, 4), UNKNOWN);
        }
        for (int p : NO_PERSON) {
            refused("person " + p, x -> x.person(p, 0), UNKNOWN);
            refused("person " + p + ": UNKNOWN ahead of OUTSIDE", x -> x.person(p, 7), UNKNOWN);
        }
        refused("stone NONE", x -> x.stone(NONE, 0), UNKNOWN);
        refused("stone, 4", x -> x.stone(0, 4), OUTSIDE);
        refused("stone, -1", x -> x.stone(0, -1), OUTSIDE);
        refused("person, 7", x -> x.person(0, 7), OUTSIDE);
        refused("person, -1", x -> x.person(0, -1), OUTSIDE);
    }

    private static void owned() {
        for (int b : NO_STONE) {
            refused("owned of " + b, x -> x.owned(0, b), UNKNOWN);
        }
        for (int p : NO_PERSON) {
            refused("owned by " + p, x -> x.owned(p, 0), UNKNOWN);
        }
        refused("owned of NONE", x -> x.owned(0, NONE), UNKNOWN);
    }

    private static void sit() {
        for (int b : NO_STONE) {
            refused("sit on " + b, x -> x.sit(0, b), UNKNOWN);
        }
        for (int p : NO_PERSON) {
            refused("sit by " + p, x -> x.sit(p, 1), UNKNOWN);
            refused("stand by " + p, x -> x.sit(p, NONE), UNKNOWN);
            refused("sit by " + p + ": UNKNOWN ahead of NOT", x -> x.sit(p, 0), UNKNOWN);
        }
        refused("sit where 1 sits", x -> x.sit(0, 2), NOT);
        refused("sit where 0 sits", x -> x.sit(1, 0), NOT);
        refused("sit where 0 sits, from standing", x -> x.sit(2, 0), NOT);
    }

    private static void goAndDrift() {
        for (int n : new int[] {LOWEST, -1, 0, 1000, HIGHEST}) {
            refused("go " + n, x -> x.go(n), OUTSIDE);
            refused("drift " + n, x -> x.drift(n), OUTSIDE);
        }
    }

    private static void own() {
        for (int n : NO_MINUTES) {
            refused("own " + n, x -> x.own(0, 0, n), OUTSIDE);
            refused("own " + n + " where it owns all it may", RefusedTest::withFullOwner, x -> x.own(1, 2, n), OUTSIDE);
            refused("own " + n + ": UNKNOWN ahead of OUTSIDE", x -> x.own(3, 0, n), UNKNOWN);
            refused("own " + n + ": UNKNOWN ahead of OUTSIDE", x -> x.own(0, 3, n), UNKNOWN);
        }
        for (int b : NO_STONE) {
            refused("own of " + b, x -> x.own(0, b, 1), UNKNOWN);
        }
        for (int p : NO_PERSON) {
            refused("own by " + p, x -> x.own(p, 0, 1), UNKNOWN);
        }
    }

    private static void trade() {
        for (int n : NO_MINUTES) {
            refused("trade " + n, x -> x.trade(1, 0, 1, n), OUTSIDE);
            refused("trade " + n + ": OUTSIDE ahead of NOT", x -> x.trade(2, 0, 1, n), OUTSIDE);
            refused("trade " + n + ": OUTSIDE ahead of FULL", RefusedTest::withFullOwner, x -> x.trade(0, 1, 2, n), OUTSIDE);
            refused("trade " + n + ": UNKNOWN ahead of OUTSIDE", x -> x.trade(1, 1, 1, n), UNKNOWN);
        }
        for (int b : NO_STONE) {
            refused("trade of " + b, x -> x.trade(1, 0, b, 1), UNKNOWN);
        }
        for (int p : NO_PERSON) {
            refused("trade by " + p, x -> x.trade(p, 0, 1, 1), UNKNOWN);
            refused("trade to " + p, x -> x.trade(1, p, 1, 1), UNKNOWN);
            refused("trade by and to " + p, x -> x.trade(p, p, 1, 1), UNKNOWN);
        }
        refused("trade with itself", x -> x.trade(1, 1, 1, 1), UNKNOWN);
        refused("trade with itself: UNKNOWN ahead of NOT", x -> x.trade(1, 1, 1, 21), UNKNOWN);
        refused("trade of more than it has", x -> x.trade(1, 0, 1, 21), NOT);
        refused("trade of what it has not", x -> x.trade(2, 0, 1, 1), NOT);
        refused("trade: NOT ahead of FULL", RefusedTest::withFullOwner, x -> x.trade(0, 1, 2, 6), NOT);
        refused("trade to one that owns all it may", RefusedTest::withFullOwner, x -> x.trade(0, 1, 2, 5), FULL);
        refused("trade with itself: UNKNOWN ahead of FULL", RefusedTest::withFullOwner, x -> x.trade(1, 1, 2, 1), UNKNOWN);
    }

    private static void forgive() {
        for (int p : NO_PERSON) {
            refused("forgive " + p, x -> x.forgive(p), UNKNOWN);
        }
    }

    private static void seating() {
        for (int m : new int[] {LOWEST, -1, 0, 61, HIGHEST}) {
            refused("seating of " + m, x -> x.seating(m, 0), OUTSIDE);
            refused("seating of " + m + ": OUTSIDE ahead of NOT", () -> Check.told("stone 9 9 9;"), x -> x.seating(m, 0), OUTSIDE);
        }
        for (int what : new int[] {LOWEST, -1, 5, HIGHEST}) {
            refused("seating, " + what, x -> x.seating(1, what), OUTSIDE);
        }
        refused("seating of nobody", () -> Check.told("stone 9 9 9;"), x -> x.seating(1, 0), NOT);
        refused("seating of five", () -> Check.told("stone 9 9 9;" + "person fat 9 9;".repeat(5)), x -> x.seating(1, 0), NOT);
    }

    private static void passed() {
        for (int b : NO_STONE) {
            refused("passed on " + b, x -> x.passed(b, 1, 1, 0), UNKNOWN);
        }
        for (int set : new int[] {LOWEST, -1, 8, 9, 255, HIGHEST}) {
            refused("passed by " + set, x -> x.passed(0, set, 1, 0), UNKNOWN);
            refused("passed by " + set + ": UNKNOWN ahead of OUTSIDE", x -> x.passed(0, set, 0, 9), UNKNOWN);
        }
        for (int m : new int[] {LOWEST, -1, 0, 61, HIGHEST}) {
            refused("passed, each " + m, x -> x.passed(0, 1, m, 0), OUTSIDE);
        }
        for (int what : new int[] {LOWEST, -1, 4, HIGHEST}) {
            refused("passed, " + what, x -> x.passed(0, 7, 1, what), OUTSIDE);
        }
        refused("passed by nobody", x -> x.passed(0, 0, 1, 0), OUTSIDE);
        refused("passed by seven", () -> Check.told("stone 9 9 9;" + "person fat 9 9;".repeat(7)), x -> x.passed(0, 127, 1, 0), OUTSIDE);
    }

    private static void gift() {
        for (int p : NO_PERSON) {
            refused("gift to " + p, x -> x.gift(p, 0), UNKNOWN);
            refused("gift to " + p + ": UNKNOWN ahead of OUTSIDE", x -> x.gift(p, -1), UNKNOWN);
        }
        for (int m : new int[] {LOWEST, -1, 100, HIGHEST}) {
            refused("gift of " + m, x -> x.gift(0, m), OUTSIDE);
        }
    }

    private static void palms() {
        for (int b : NO_STONE) {
            refused("palms on " + b, x -> x.palms(b, 1, 0, 0, NONE), UNKNOWN);
            refused("palms on " + b + ": UNKNOWN ahead of OUTSIDE", x -> x.palms(b, 0, -1, -1, NONE), UNKNOWN);
        }
        for (int m : new int[] {LOWEST, -1, 0, 61, HIGHEST}) {
            refused("palms behind " + m, x -> x.palms(0, m, 0, 0, NONE), OUTSIDE);
        }
        for (int v : new int[] {LOWEST, -1, 10000, HIGHEST}) {
            refused("palms: v " + v, x -> x.palms(0, 1, v, 0, NONE), OUTSIDE);
            refused("palms: e " + v, x -> x.palms(0, 1, 0, v, NONE), OUTSIDE);
        }
    }

    private static void write() {
        for (int b : NO_STONE) {
            refused("write of " + b, x -> x.write(b, 0), UNKNOWN);
            refused("write of " + b + ": UNKNOWN ahead of OUTSIDE", x -> x.write(b, -1), UNKNOWN);
            refused("write of " + b + ": UNKNOWN ahead of FULL", RefusedTest::withFullBook, x -> x.write(b, 0), UNKNOWN);
        }
        for (int heat : new int[] {LOWEST, -1, 10000, HIGHEST}) {
            refused("write " + heat, x -> x.write(0, heat), OUTSIDE);
            refused("write " + heat + ": OUTSIDE ahead of FULL", RefusedTest::withFullBook, x -> x.write(0, heat), OUTSIDE);
        }
        refused("write into a full book", RefusedTest::withFullBook, x -> x.write(0, 5), FULL);
    }

    private static void seed() {
        refused("seed -1", x -> x.seed(-1), OUTSIDE);
        refused("seed lowest", x -> x.seed(LOWEST), OUTSIDE);
    }

    private static void images() {
        for (int i : new int[] {LOWEST, -1, 2, 32, HIGHEST}) {
            refused("keep " + i, x -> x.keep(i), UNKNOWN);
            refused("goBack " + i, x -> x.goBack(i), UNKNOWN);
        }
        refused("goBack to one that was not kept", x -> x.goBack(1), NOT);
    }

    private static void onANewObject() {
        refused("new: feed", WarmStones::new, x -> x.feed(0, 0), OUTSIDE);
        refused("new: stone", WarmStones::new, x -> x.stone(0, 0), UNKNOWN);
        refused("new: person", WarmStones::new, x -> x.person(0, 0), UNKNOWN);
        refused("new: sit", WarmStones::new, x -> x.sit(0, 0), UNKNOWN);
        refused("new: go", WarmStones::new, x -> x.go(0), OUTSIDE);
        refused("new: own", WarmStones::new, x -> x.own(0, 0, 1), UNKNOWN);
        refused("new: trade", WarmStones::new, x -> x.trade(0, 1, 0, 1), UNKNOWN);
        refused("new: forgive", WarmStones::new, x -> x.forgive(0), UNKNOWN);
        refused("new: seating", WarmStones::new, x -> x.seating(1, 0), NOT);
        refused("new: passed", WarmStones::new, x -> x.passed(0, 0, 1, 0), UNKNOWN);
        refused("new: gift", WarmStones::new, x -> x.gift(0, 0), UNKNOWN);
        refused("new: palms", WarmStones::new, x -> x.palms(0, 1, 0, 0, NONE), UNKNOWN);
        refused("new: write", WarmStones::new, x -> x.write(0, 0), UNKNOWN);
        refused("new: goBack", WarmStones::new, x -> x.goBack(0), NOT);
    }
}
