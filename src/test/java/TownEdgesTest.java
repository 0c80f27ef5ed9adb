/** Promises 1, 3, 5 to 8, and how long an object lasts: each sentence that names a boundary has a test of its own here. */
final class TownEdgesTest {
    private static final Check C = new Check("TownEdgesTest");
    private static final int NONE = WarmStones.NONE, UNKNOWN = WarmStones.UNKNOWN, OUTSIDE = WarmStones.OUTSIDE, NOT = WarmStones.NOT;
    private static final int[] FAR = {Integer.MIN_VALUE, Integer.MIN_VALUE + 1, UNKNOWN, -100, Integer.MAX_VALUE - 1, Integer.MAX_VALUE};
    private static final String TOWN = "stone 100 10 50;stone 80 9 40;person plain 90 95;person fat 70 10;frost 5 2;fine 3;";

    public static void main(String[] args) {
        newObjectHasNothing();
        newObjectKnowsNobody();
        newObjectStillPassesMinutes();
        townOfNothing();
        townBeginsTheMinute();
        townLetsAllStand();
        townOwnsNothing();
        townLosesNothing();
        townBeginsCountsAnew();
        townTearsTheBook();
        townForgetsImages();
        townTellsHeatsAndWarmths();
        townForgetsWhatIsGone();
        townBehindManyTowns();
        townBehindAFault();
        townLeavesTheSeed();
        faultyTownLeavesAll();
        toldBounds();
        toldTogether();
        stoneBounds();
        stoneUnknown();
        personBounds();
        personUnknown();
        ownedUnknown();
        ownedOfTheLast();
        the512thCall();
        countsStayFarAboveRefusals();
        C.end();
    }

    // "No STONES, no PERSONS."
    private static void newObjectHasNothing() {
        WarmStones x = new WarmStones();
        long[] due = {0, 0, 0, 0, 0, 3, 1, 0, 0, 0, 0};
        for (int what = 0; what <= 10; what++) {
            C.same("new: told " + what, x.told(what), due[what]);
        }
        C.same("new: fault", x.fault(), NONE);
        C.same("new: seed", x.seed(0), 0);
        C.same("new: tear", x.tear(), 0);
        C.same("new: judge", x.judge(), NONE);
        C.same("new: safe", x.safe(), 999);
        C.same("new: goBack 0", x.goBack(0), NOT);
        C.same("new: goBack 1", x.goBack(1), NOT);
        C.same("new: seating", x.seating(1, 0), NOT);
    }

    private static void newObjectKnowsNobody() {
        WarmStones x = new WarmStones();
        C.same("new: stone", x.stone(0, 0), UNKNOWN);
        C.same("new: person", x.person(0, 0), UNKNOWN);
        C.same("new: owned", x.owned(0, 0), UNKNOWN);
        C.same("new: sit", x.sit(0, 0), UNKNOWN);
        C.same("new: stand", x.sit(0, NONE), UNKNOWN);
        C.same("new: own", x.own(0, 0, 1), UNKNOWN);
        C.same("new: trade", x.trade(0, 1, 0, 1), UNKNOWN);
        C.same("new: forgive", x.forgive(0), UNKNOWN);
        C.same("new: passed", x.passed(0, 1, 1, 0), UNKNOWN);
        C.same("new: passed by nobody", x.passed(0, 0, 1, 0), UNKNOWN);
        C.same("new: gift", x.gift(0, 0), UNKNOWN);
        C.same("new: palms", x.palms(0, 1, 0, 0, NONE), UNKNOWN);
        C.same("new: write", x.write(0, 0), UNKNOWN);
    }

    private static void newObjectStillPassesMinutes() {
        WarmStones x = new WarmStones();
        C.same("new: keep", x.keep(0), 1);
        C.same("new: go", x.go(999), 0);
        C.same("new: drift", x.drift(1), 0);
        C.same("new: the minute", x.told(3), 1000);
        C.same("new: nobody draws", x.seed(0), 0);
        C.same("new: goBack", x.goBack(0), 1);
        C.same("new: the minute again", x.told(3), 0);
    }

    // An empty text has no clauses, and no fault.
    private static void townOfNothing() {
        WarmStones x = Check.told(TOWN);
        C.same("empty text", x.town(), 0);
        C.same("no STONES, no PERSONS", x.told(0) + x.told(1), 0);
        C.same("no heat", x.told(10), 0);
        C.same("no fault", x.fault(), NONE);
        C.same("persons without stones", Check.told("person fat 1 1;").told(0), 0);
        C.same("stones without persons", Check.told("stone 1 2 0;").told(1), 0);
    }

    // "MINUTE 0"
    private static void townBeginsTheMinute() {
        WarmStones x = Check.told(TOWN);
        C.same("MINUTE 0 at first", x.told(3), 0);
        x.go(5);
        x.drift(2);
        C.same("one more behind each", x.told(3), 7);
        Check.tell(x, TOWN);
        C.same("MINUTE 0 in a new town", x.told(3), 0);
    }

    // "all stand"
    private static void townLetsAllStand() {
        WarmStones x = Check.told(TOWN);
        x.sit(0, 0);
        x.sit(1, 1);
        Check.tell(x, TOWN);
        for (int k = 0; k < 2; k++) {
            C.same("person " + k + " stands", x.person(k, 3), NONE);
            C.same("stone " + k + " is free", x.stone(k, 3), NONE);
        }
    }

    // "nothing owned"
    private static void townOwnsNothing() {
        WarmStones x = Check.told("stone 1 2 0;".repeat(9) + "person fat 1 1;".repeat(8));
        for (int p = 0; p < 8; p++) {
            for (int b = 0; b < 9; b++) {
                x.own(p, b, 9999);
            }
        }
        Check.tell(x, "stone 1 2 0;".repeat(9) + "person fat 1 1;".repeat(8));
        long all = 0;
        for (int p = 0; p < 8; p++) {
            for (int b = 0; b < 9; b++) {
                all += x.owned(p, b);
            }
        }
        C.same("nothing owned", all, 0);
    }

    // "LOST" (nothing)
    private static void townLosesNothing() {
        WarmStones x = Check.told(TOWN);
        x.go(9);
        C.holds("something is LOST", x.told(4) > 0);
        Check.tell(x, TOWN);
        C.same("nothing LOST", x.told(4), 0);
    }

    private static void townBeginsCountsAnew() {
        WarmStones x = Check.told(TOWN);
        x.go(3);
        x.sit(0, 0);
        x.go(3);
        C.holds("COLD, STOLEN, owed", x.person(0, 4) > 0 && x.person(0, 5) > 0 && x.person(0, 6) > 0);
        Check.tell(x, TOWN);
        for (int p = 0; p < 2; p++) {
            C.same("COLD minutes", x.person(p, 4), 0);
            C.same("STOLEN minutes", x.person(p, 5), 0);
            C.same("what it owes", x.person(p, 6), 0);
        }
        C.same("COLD minutes of all", x.told(9), 0);
    }

    // "no BOOK"
    private static void townTearsTheBook() {
        WarmStones x = Check.told(TOWN);
        for (int k = 0; k < 30; k++) {
            x.write(0, 1);
        }
        Check.tell(x, TOWN);
        C.same("no entries", x.told(8), 0);
        C.same("nothing WRONG", x.judge(), NONE);
        C.same("the first entry", x.write(0, 50), 1);
    }

    // "IMAGES are gone"
    private static void townForgetsImages() {
        WarmStones x = Check.told(TOWN);
        x.keep(0);
        x.keep(1);
        Check.tell(x, TOWN);
        C.same("image 0 is gone", x.goBack(0), NOT);
        C.same("image 1 is gone", x.goBack(1), NOT);
        x.keep(1);
        C.same("image 1 is kept anew", x.goBack(1), 1);
        C.same("image 0 is still gone", x.goBack(0), NOT);
        x.town();
        C.same("gone by an empty text, too", x.goBack(1), NOT);
    }

    private static void townTellsHeatsAndWarmths() {
        WarmStones x = Check.told(TOWN);
        x.go(9);
        Check.tell(x, TOWN);
        C.same("HEAT at first", x.stone(0, 2) * 1000 + x.stone(1, 2), 50040);
        C.same("WARMTH at first", x.person(0, 2) * 1000 + x.person(1, 2), 90070);
        C.same("all together", x.told(10), 250);
    }

    private static void townForgetsWhatIsGone() {
        WarmStones x = Check.told(TOWN);
        x.sit(1, 1);
        x.go(2);
        C.same("a smaller town", Check.tell(x, "stone 9 9 9;person fat 8 8;"), 1);
        C.same("all together", x.told(10), 17);
        C.same("COLD minutes of all", x.told(9), 0);
        C.same("a stone that is gone", x.stone(1, 2), UNKNOWN);
        C.same("a person that is gone", x.person(1, 2), UNKNOWN);
        C.same("who sat is gone", x.sit(0, 0), NONE);
        C.same("COLD ones are of the town", x.go(1), 1);
        Check.tell(x, TOWN);
        C.same("larger again", x.person(1, 4) + x.person(1, 5) + x.person(1, 6) + x.owned(1, 1), 0);
        C.same("larger again: it stands", x.person(1, 3), NONE);
    }

    private static void townBehindManyTowns() {
        WarmStones x = new WarmStones();
        int[] sizes = {9, 8, 1, 0, 9, 1, 3, 2, 0, 0, 1};
        for (int size : sizes) {
            C.same("STONES", Check.tell(x, "stone 9 9 9;".repeat(size) + "person fat 5 5;".repeat(Math.min(8, size))), size);
            C.same("PERSONS", x.told(1), Math.min(8, size));
            C.same("all HEATS and WARMTHS", x.told(10), 9 * size + 5 * Math.min(8, size));
            x.go(1);
            C.same("COLD minutes", x.told(9), Math.min(8, size));
        }
    }

    private static void townBehindAFault() {
        WarmStones x = new WarmStones();
        for (int k = 0; k < 3; k++) {
            C.same("a fault behind all there can be", Check.tell(x, "stone 9 9 9;".repeat(9) + "person fat 5 5;".repeat(8) + "frost 9 9;fine 9;x"), -11);
            C.same("STONES", Check.tell(x, "stone 4 4 4;person fat 3 3;"), 1);
            C.same("PERSONS", x.told(1), 1);
            C.same("all HEATS and WARMTHS", x.told(10), 7);
            C.same("told once", Check.tell(x, "frost 9 9;fine 9;"), 0);
        }
    }

    // What begins anew with a town is told; THE SEED is not among it.
    private static void townLeavesTheSeed() {
        WarmStones x = new WarmStones();
        x.seed(2147483647);
        Check.tell(x, TOWN);
        C.same("behind the first town", x.seed(5), 2147483647);
        Check.tell(x, TOWN);
        C.same("behind another town", x.seed(6), 5);
        Check.tell(x, "x");
        C.same("behind a fault", x.seed(0), 6);
    }

    // "-10 less the number of its FAULT (all is as it was)": whatever the fault, and however late it comes.
    private static void faultyTownLeavesAll() {
        String[] texts = {"x", "fine 100;", "stone 1 2 2;", "fine 1;fine 1;", "frost 9 9;fine 9;stone 9 9 9;person fat 9 9;x",
            "stone 1 2 0;".repeat(10), "person fat 1 1;".repeat(9), "frost 8 8", "stone 7 7 7;person drain 5 5"};
        for (String text : texts) {
            WarmStones x = Check.told(TOWN);
            x.sit(0, 1);
            x.own(0, 1, 2);
            x.write(1, 40);
            x.seed(9);
            x.go(4);
            x.keep(1);
            x.go(1);
            String before = Check.seen(x);
            C.holds("a fault: " + text, Check.tell(x, text) < -10);
            C.same("all is as it was: " + text, Check.seen(x).replace(" fault " + x.fault() + " ", " fault -1 "), before);
            C.same("no image 0: " + text, x.goBack(0), NOT);
            C.same("image 1: " + text, x.goBack(1), 1);
            C.same("as it was kept: " + text, x.told(3), 4);
        }
    }

    // "0 STONES .. 10 all HEATS and WARMTHS together. OUTSIDE."
    private static void toldBounds() {
        WarmStones x = Check.told(TOWN);
        C.same("told -1", x.told(-1), OUTSIDE);
        C.same("told 0", x.told(0), 2);
        C.same("told 10", x.told(10), 250);
        C.same("told 11", x.told(11), OUTSIDE);
        for (int far : FAR) {
            C.same("told " + far, x.told(far), OUTSIDE);
            C.same("told " + far + " of a new object", new WarmStones().told(far), OUTSIDE);
        }
    }

    private static void toldTogether() {
        WarmStones x = Check.told("stone 9999 2 9999;".repeat(9) + "person fat 9999 9999;".repeat(8));
        C.same("the most there can be", x.told(10), 17 * 9999);
        x.go(999);
        C.same("LOST and left", x.told(4) + x.told(10), 17 * 9999);
        C.same("heat is all LOST", x.told(10), 8 * (9999 - 999 * 3));
        x.go(999);
        x.go(999);
        x.go(999);
        C.same("all is LOST", x.told(4), 17 * 9999);
        C.same("nothing is left", x.told(10), 0);
    }

    // "what = 0 SIZE, 1 K, 2 HEAT, 3 who sits on it (NONE). .. OUTSIDE"
    private static void stoneBounds() {
        WarmStones x = Check.told(TOWN);
        C.same("stone, -1", x.stone(0, -1), OUTSIDE);
        C.same("stone, 0", x.stone(0, 0), 100);
        C.same("stone, 3", x.stone(0, 3), NONE);
        C.same("stone, 4", x.stone(0, 4), OUTSIDE);
        for (int far : FAR) {
            C.same("stone, " + far, x.stone(1, far), OUTSIDE);
        }
        x.sit(0, 1);
        C.same("PERSON 0 sits on it", x.stone(1, 3), 0);
        C.same("not on the other", x.stone(0, 3), NONE);
        x.sit(0, NONE);
        C.same("nobody again", x.stone(1, 3), NONE);
    }

    private static void stoneUnknown() {
        WarmStones x = Check.told(TOWN);
        WarmStones nine = Check.told("stone 7 2 0;".repeat(9));
        C.same("the first of nine", nine.stone(0, 0), 7);
        C.same("the last of nine", nine.stone(8, 0), 7);
        C.same("a tenth", nine.stone(9, 0), UNKNOWN);
        C.same("ahead of the first", nine.stone(-1, 0), UNKNOWN);
        C.same("a third of two", x.stone(2, 0), UNKNOWN);
        for (int far : FAR) {
            C.same("stone " + far, x.stone(far, 0), UNKNOWN);
            C.same("stone " + far + ": UNKNOWN ahead of OUTSIDE", x.stone(far, far), UNKNOWN);
        }
        C.same("UNKNOWN ahead of OUTSIDE", x.stone(2, 4), UNKNOWN);
    }

    // "what = 0 kind .. 6 what it owes. .. OUTSIDE"
    private static void personBounds() {
        WarmStones x = Check.told(TOWN);
        C.same("person, -1", x.person(1, -1), OUTSIDE);
        C.same("person, 0", x.person(1, 0), 1);
        x.go(1);
        C.same("person, 6", x.person(1, 6), 3);
        C.same("person, 7", x.person(1, 7), OUTSIDE);
        for (int far : FAR) {
            C.same("person, " + far, x.person(0, far), OUTSIDE);
        }
        C.same("it stands", x.person(0, 3), NONE);
        x.sit(0, 0);
        C.same("it sits on STONE 0", x.person(0, 3), 0);
    }

    private static void personUnknown() {
        WarmStones x = Check.told(TOWN);
        WarmStones eight = Check.told("person beggar 7 2;".repeat(8));
        C.same("the first of eight", eight.person(0, 0), 4);
        C.same("the last of eight", eight.person(7, 0), 4);
        C.same("a ninth", eight.person(8, 0), UNKNOWN);
        C.same("ahead of the first", eight.person(-1, 0), UNKNOWN);
        C.same("a third of two", x.person(2, 0), UNKNOWN);
        for (int far : FAR) {
            C.same("person " + far, x.person(far, 0), UNKNOWN);
            C.same("person " + far + ": UNKNOWN ahead of OUTSIDE", x.person(far, far), UNKNOWN);
        }
        C.same("UNKNOWN ahead of OUTSIDE", x.person(2, 7), UNKNOWN);
    }

    // "MINUTES OWNED of a STONE by a PERSON. UNKNOWN."
    private static void ownedUnknown() {
        WarmStones x = Check.told(TOWN);
        C.same("0 at first", x.owned(1, 1), 0);
        for (int no : new int[] {-1, 2, 8, 9}) {
            C.same("owned by " + no, x.owned(no, 0), UNKNOWN);
            C.same("owned of " + no, x.owned(0, no), UNKNOWN);
            C.same("neither " + no, x.owned(no, no), UNKNOWN);
        }
        for (int far : FAR) {
            C.same("owned by " + far, x.owned(far, 0), UNKNOWN);
            C.same("owned of " + far, x.owned(0, far), UNKNOWN);
        }
        C.same("persons without stones", Check.told("person fat 1 1;").owned(0, 0), UNKNOWN);
        C.same("stones without persons", Check.told("stone 1 2 0;").owned(0, 0), UNKNOWN);
    }

    // "each PERSON owns minutes of each STONE": each pair has a count of its own.
    private static void ownedOfTheLast() {
        WarmStones x = Check.told("stone 1 2 0;".repeat(9) + "person fat 1 1;".repeat(8));
        for (int p = 0; p < 8; p++) {
            for (int b = 0; b < 9; b++) {
                x.own(p, b, 100 + 10 * p + b);
            }
        }
        for (int p = 0; p < 8; p++) {
            for (int b = 0; b < 9; b++) {
                C.same("owned " + p + " " + b, x.owned(p, b), 100 + 10 * p + b);
            }
        }
    }

    // "An object is used for at most 512 calls": 5 to feed, 1 town, 505 nights, and the last one.
    private static WarmStones behind511Calls(boolean sits) {
        WarmStones x = Check.told(sits ? "frost 0 0;stone 1 2 0;person fat 0 1;" : "frost 0 0;fine 99;person fat 0 01;  ");
        if (sits) {
            x.sit(0, 0);
        }
        for (int k = sits ? 1 : 0; k < 505; k++) {
            x.go(999);
        }
        return x;
    }

    private static void the512thCall() {
        C.same("THE MINUTE", behind511Calls(false).told(3), 504495);
        C.same("COLD minutes", behind511Calls(false).person(0, 4), 504495);
        C.same("COLD minutes of all", behind511Calls(false).told(9), 504495);
        C.same("what it owes", behind511Calls(false).forgive(0), 504495 * 99);
        C.same("go on", behind511Calls(false).go(1), 1);
        C.same("STOLEN minutes", behind511Calls(true).person(0, 5), 504 * 999);
    }

    // "They are far below all that is counted"
    private static void countsStayFarAboveRefusals() {
        WarmStones x = Check.told("fine 99;frost 99 99;" + "person fat 0 9999;".repeat(8));
        for (int k = 0; k < 490; k++) {
            x.go(999);
        }
        C.same("COLD minutes of eight", x.told(9), 8L * 490 * 999);
        C.same("owed by the last", x.person(7, 6), 490 * 999 * 99);
        C.same("nothing to lose", x.told(4), 0);
        C.holds("in order", NONE > UNKNOWN && UNKNOWN > OUTSIDE && OUTSIDE > NOT && NOT > WarmStones.FULL);
    }
}
