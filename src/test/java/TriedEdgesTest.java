/** TRIED, and promises 15 to 19: each sentence that names a boundary has a test of its own here. */
final class TriedEdgesTest {
    private static final Check C = new Check("TriedEdgesTest");
    private static final int NONE = WarmStones.NONE, UNKNOWN = WarmStones.UNKNOWN, OUTSIDE = WarmStones.OUTSIDE, NOT = WarmStones.NOT;
    private static final int[] FAR = {Integer.MIN_VALUE, Integer.MIN_VALUE + 1, UNKNOWN, -100, Integer.MAX_VALUE - 1, Integer.MAX_VALUE};

    public static void main(String[] args) {
        seatingMinutes();
        seatingWhat();
        seatingOfNobody();
        seatingOfOneToFour();
        seatingOfMore();
        seatingWithoutStones();
        seatingNoTwoOnOne();
        seatingAllThatTime();
        seatingFewestCold();
        seatingLeastWarmthGreatest();
        seatingFirst();
        seatingFromNow();
        passedMinutes();
        passedWhat();
        passedOneToSix();
        passedUnknown();
        passedInTurn();
        passedOthersStand();
        passedFirst();
        passedUpToSize();
        passedFromNow();
        giftLeavesNeedAndFrost();
        giftWithoutNeed();
        giftOfABeggar();
        giftOfAllOthers();
        giftBounds();
        palmsWithin();
        palmsMinutes();
        palmsNth();
        palmsThenNobody();
        palmsBounds();
        safeMinutes();
        safeBehindTheFirst();
        safeAsTheySit();
        nothingChanges();
        C.end();
    }

    private static void seated(WarmStones x, int m, int cold, int least, int... stones) {
        C.same("seating " + m + ": COLD", x.seating(m, 0), cold);
        C.same("seating " + m + ": least", x.seating(m, 1), least);
        for (int p = 0; p < stones.length; p++) {
            C.same("seating " + m + ": PERSON " + p, x.seating(m, 2 + p), stones[p]);
        }
    }

    // "SEATING for m minutes (1 .. 60)"
    private static void seatingMinutes() {
        WarmStones x = Check.told("frost 1 1;person plain 70 9999;");
        C.same("m 0", x.seating(0, 0), OUTSIDE);
        seated(x, 1, 1, 69, NONE);
        seated(x, 60, 60, 10, NONE);
        C.same("m 61", x.seating(61, 0), OUTSIDE);
        C.same("m -1", x.seating(-1, 0), OUTSIDE);
        for (int far : FAR) {
            C.same("m " + far, x.seating(far, 0), OUTSIDE);
        }
    }

    // "2 and p the STONE of PERSON p", "OUTSIDE (also a p that there is not)"
    private static void seatingWhat() {
        for (int persons = 1; persons <= 4; persons++) {
            WarmStones x = Check.told("person plain 9 9;".repeat(persons));
            C.same("what -1", x.seating(1, -1), OUTSIDE);
            C.same("the last PERSON of " + persons, x.seating(1, 1 + persons), NONE);
            C.same("one more than " + persons, x.seating(1, 2 + persons), OUTSIDE);
            for (int far : FAR) {
                C.same("what " + far, x.seating(1, far), OUTSIDE);
            }
        }
    }

    // "NOT: no PERSONS"
    private static void seatingOfNobody() {
        WarmStones x = Check.told("stone 9 9 9;");
        C.same("COLD of nobody", x.seating(1, 0), NOT);
        C.same("least of nobody", x.seating(60, 1), NOT);
        C.same("PERSON 0 of nobody", x.seating(1, 2), OUTSIDE);
        C.same("OUTSIDE ahead of NOT", x.seating(0, 0), OUTSIDE);
        C.same("OUTSIDE ahead of NOT", x.seating(61, 1), OUTSIDE);
        C.same("OUTSIDE ahead of NOT", x.seating(1, -1), OUTSIDE);
    }

    // "each of the PERSONS 0 to 3 (as many as there are": on nine STONES of which the last have what they need.
    private static void seatingOfOneToFour() {
        for (int persons = 1; persons <= 4; persons++) {
            WarmStones x = Check.told("frost 9 0;" + "stone 99 2 0;".repeat(9 - persons) + "stone 50 2 50;".repeat(persons)
                + "person plain 50 50;".repeat(persons));
            C.same("COLD of " + persons, x.seating(60, 0), 0);
            C.same("least of " + persons, x.seating(60, 1), 50);
            for (int p = 0; p < persons; p++) {
                C.same("PERSON " + p + " of " + persons, x.seating(60, 2 + p), 9 - persons + p);
            }
        }
    }

    // "NOT, if there are more than 4"
    private static void seatingOfMore() {
        for (int persons = 5; persons <= 8; persons++) {
            WarmStones x = Check.told("stone 9 9 9;" + "person plain 9 9;".repeat(persons));
            C.same("COLD of " + persons, x.seating(1, 0), NOT);
            C.same("least of " + persons, x.seating(1, 1), NOT);
            C.same("PERSON 0 of " + persons, x.seating(1, 2), NOT);
            C.same("PERSON 3 of " + persons, x.seating(1, 5), NOT);
            C.same("PERSON that there is not of " + persons, x.seating(1, 2 + persons), OUTSIDE);
            C.same("OUTSIDE ahead of NOT", x.seating(0, 0), OUTSIDE);
            C.same("OUTSIDE ahead of NOT", x.seating(61, 0), OUTSIDE);
        }
    }

    private static void seatingWithoutStones() {
        WarmStones x = Check.told("frost 2 0;person plain 9 8;person beggar 9 8;person miser 0 0;");
        seated(x, 1, 1, 0, NONE, NONE, NONE);
        seated(x, 2, 3, 0, NONE, NONE, NONE);
    }

    // "no two on one"
    private static void seatingNoTwoOnOne() {
        WarmStones x = Check.told("frost 5 0;stone 50 2 50;" + "person plain 50 50;".repeat(4));
        seated(x, 1, 3, 45, NONE, NONE, NONE, 0);
        WarmStones y = Check.told("frost 5 0;stone 50 2 50;stone 50 2 50;" + "person plain 50 50;".repeat(3));
        seated(y, 2, 2, 40, NONE, 0, 1);
    }

    // "on a STONE or standing .. all that time": standing takes less at first, sitting more in the end.
    private static void seatingAllThatTime() {
        WarmStones x = Check.told("frost 2 0;stone 99 2 0;person plain 24 0;");
        seated(x, 1, 0, 22, NONE);
        // Seated it has 21, 19, 18, 17, 16, 15 and stays at 15, as the stone has 9 then; standing 22, 20, 18, 16, 14 ..
        seated(x, 4, 0, 17, 0);
        seated(x, 60, 0, 15, 0);
    }

    // "the one with the fewest COLD minutes of all together": ahead of how much WARMTH is left.
    private static void seatingFewestCold() {
        WarmStones x = Check.told("frost 1 0;stone 500 2 0;person fat 400 400;person drain 400 0;");
        seated(x, 1, 1, 399, NONE, NONE);
        WarmStones y = Check.told("frost 1 0;stone 500 2 400;person fat 400 400;person drain 100 0;");
        seated(y, 1, 0, 99, 0, NONE);
        WarmStones z = Check.told("frost 1 0;stone 90 2 50;person fat 50 50;person fat 50 49;");
        seated(z, 1, 0, 49, 0, NONE);
        seated(z, 2, 1, 48, 0, NONE);
        WarmStones all = Check.told("frost 0 0;" + "person plain 0 9999;".repeat(4));
        seated(all, 60, 240, 0, NONE, NONE, NONE, NONE);
    }

    // "of like ones that in which the least WARMTH behind it is greatest"
    private static void seatingLeastWarmthGreatest() {
        WarmStones x = Check.told("frost 0 0;stone 500 2 108;stone 500 2 107;person plain 100 0;");
        seated(x, 1, 0, 101, 0);
        WarmStones y = Check.told("frost 0 0;stone 500 2 107;stone 500 2 108;person plain 100 0;");
        seated(y, 1, 0, 101, 1);
        // The least is another's, whatever PERSON 0 does: of like ones the first.
        WarmStones z = Check.told("frost 0 0;stone 500 2 500;person plain 100 0;person drain 50 0;");
        seated(z, 1, 0, 50, NONE, NONE);
        WarmStones most = Check.told("frost 0 0;person plain 9999 0;");
        seated(most, 1, 0, 9999, NONE);
    }

    // "of like ones the first (PERSON by PERSON: standing, then STONES by numbers)"
    private static void seatingFirst() {
        WarmStones x = Check.told("frost 0 0;" + "stone 50 2 50;".repeat(9) + "person plain 50 50;".repeat(4));
        seated(x, 9, 0, 50, NONE, NONE, NONE, NONE);
        WarmStones y = Check.told("frost 5 0;" + "stone 50 2 50;".repeat(9) + "person plain 50 50;".repeat(4));
        seated(y, 9, 0, 50, 0, 1, 2, 3);
        WarmStones z = Check.told("frost 5 0;stone 50 2 50;person plain 50 50;person plain 50 50;");
        seated(z, 1, 1, 45, NONE, 0);
    }

    // "TRIED from now": COLD minutes of before do not count, nor who sits where.
    private static void seatingFromNow() {
        WarmStones x = Check.told("frost 5 0;stone 50 2 50;person plain 55 51;person plain 60 0;");
        x.sit(1, 0);
        x.go(1);
        C.same("a COLD minute", x.told(9), 1);
        // PERSON 0 has 50, stone 0 has 51: seated it stays COLD, so both ways have one COLD minute.
        seated(x, 1, 1, 50, 0, NONE);
    }

    private static void along(WarmStones x, int b, int set, int m, int heat, int... order) {
        C.same("passed " + set + ": HEAT", x.passed(b, set, m, 0), heat);
        for (int k = 0; k < order.length; k++) {
            C.same("passed " + set + ": who is " + k + "-th", x.passed(b, set, m, 1 + k), order[k]);
        }
    }

    // "m minutes (1 .. 60) each"
    private static void passedMinutes() {
        WarmStones x = Check.told("frost 0 1;stone 999 2 0;person drain 16 0;");
        C.same("m 0", x.passed(0, 1, 0, 0), OUTSIDE);
        along(x, 0, 1, 1, 8, 0);
        // 8 goes over, 7 are left of the 8: nothing more.
        along(x, 0, 1, 60, 8, 0);
        C.same("m 61", x.passed(0, 1, 61, 0), OUTSIDE);
        C.same("m -1", x.passed(0, 1, -1, 0), OUTSIDE);
        for (int far : FAR) {
            C.same("m " + far, x.passed(0, 1, far, 0), OUTSIDE);
        }
        // Each minute the beggar takes an eighth: 800, 700, 625 .. only as long as it sits.
        WarmStones y = Check.told("frost 0 0;stone 999 2 800;person beggar 0 0;");
        along(y, 0, 1, 2, 625, 0);
    }

    // "what = 0 HEAT at the end, 1 and k who is k-th", "OUTSIDE (what"
    private static void passedWhat() {
        WarmStones x = Check.told("stone 9 9 9;" + "person miser 9 0;".repeat(6));
        int set = 0;
        for (int count = 1; count <= 6; count++) {
            set |= 1 << count - 1;
            C.same("the last of " + count, x.passed(0, set, 1, count), count - 1);
            C.same("one more than " + count, x.passed(0, set, 1, count + 1), OUTSIDE);
            C.same("what -1", x.passed(0, set, 1, -1), OUTSIDE);
            for (int far : FAR) {
                C.same("what " + far, x.passed(0, set, 1, far), OUTSIDE);
            }
        }
    }

    // "a SET of PERSONS (1 to 6 of them)", "not 1 to 6 in the SET"
    private static void passedOneToSix() {
        WarmStones x = Check.told("frost 0 0;stone 9999 9 0;" + "person miser 9 0;".repeat(7) + "person drain 8 0;");
        C.same("nobody", x.passed(0, 0, 1, 0), OUTSIDE);
        along(x, 0, 0b00000001, 1, 0, 0);
        along(x, 0, 0b10000000, 1, 4, 7);
        along(x, 0, 0b10111110, 1, 4, 1, 2, 3, 4, 5, 7);
        C.same("seven", x.passed(0, 0b11111110, 1, 0), OUTSIDE);
        C.same("another seven", x.passed(0, 0b01111111, 1, 1), OUTSIDE);
        C.same("eight", x.passed(0, 0b11111111, 1, 0), OUTSIDE);
    }

    // "UNKNOWN (bits of the SET)"
    private static void passedUnknown() {
        WarmStones x = Check.told("stone 9 9 9;stone 9 9 9;" + "person miser 9 0;".repeat(3));
        C.same("all there are", x.passed(1, 0b111, 1, 0), 9);
        for (int bit = 3; bit < 32; bit++) {
            C.same("bit " + bit, x.passed(0, 1 << bit, 1, 0), UNKNOWN);
            C.same("bit " + bit + " beside one that is", x.passed(0, 1 | 1 << bit, 1, 0), UNKNOWN);
            C.same("UNKNOWN ahead of OUTSIDE", x.passed(0, 1 << bit, 0, -1), UNKNOWN);
        }
        C.same("all bits", x.passed(0, -1, 1, 0), UNKNOWN);
        for (int b : new int[] {-2, -1, 2, 3}) {
            C.same("stone " + b, x.passed(b, 1, 1, 0), UNKNOWN);
            C.same("UNKNOWN ahead of OUTSIDE", x.passed(b, 0, 0, -1), UNKNOWN);
        }
        for (int far : FAR) {
            C.same("stone " + far, x.passed(far, 1, 1, 0), UNKNOWN);
        }
        WarmStones full = Check.told("stone 9 9 9;" + "person miser 9 0;".repeat(8));
        C.same("bit 7 of eight", full.passed(0, 1 << 7, 1, 1), 7);
        C.same("bit 8 of eight", full.passed(0, 1 << 8, 1, 1), UNKNOWN);
        C.same("bits that are counted as six", full.passed(0, 0b111111 << 8, 1, 0), UNKNOWN);
    }

    // "sits on one STONE one behind the other, m minutes each; all others, and those who wait, stand"
    private static void passedInTurn() {
        WarmStones x = Check.told("frost 10 1;stone 999 2 0;person drain 100 0;person drain 100 0;");
        // 50 by the first; the second has waited a minute: 90, so 20 more.
        along(x, 0, 0b11, 1, 70, 0, 1);
        WarmStones beggar = Check.told("frost 11 1;stone 999 2 0;person drain 80 0;person beggar 800 0;");
        // First the drain: 40, then (795 less 40) / 8: 94. First the beggar: 100.
        along(beggar, 0, 0b11, 1, 134, 0, 1);
        WarmStones last = Check.told("frost 99 0;stone 999 2 8;person drain 99 0;person drain 198 0;");
        // First 0: 53, then the other of 99: 23 more. First 1: 103, then nothing is left.
        along(last, 0, 0b11, 1, 103, 1, 0);
        WarmStones nothing = Check.told("frost 99 0;stone 999 2 6;person drain 200 0;person plain 10 0;");
        // First 0: 103, then the other, of nothing (not below: of 1 less it would be 13), takes 12. First 1: 6, then 53.
        along(nothing, 0, 0b11, 1, 91, 0, 1);
        WarmStones six = Check.told("frost 1 0;stone 999 2 0;" + "person drain 0 0;".repeat(5) + "person drain 300 0;");
        // Whoever has nothing changes nothing; the sixth waits for none of them, or it would have 60 less for each.
        along(six, 0, 0b111111, 60, 150, 5, 0, 1, 2, 3, 4);
    }

    // "all others .. stand; other STONES are empty": who sits where now is as if it stood.
    private static void passedOthersStand() {
        WarmStones x = Check.told("frost 0 0;stone 999 2 0;stone 999 2 500;person drain 100 0;person drain 900 0;person fat 100 0;");
        x.sit(1, 0);
        x.sit(0, 1);
        along(x, 0, 0b001, 1, 50, 0);
        along(x, 0, 0b101, 1, 62, 0, 2);
        along(x, 1, 0b010, 1, 700, 1);
    }

    // "of like ones the first"
    private static void passedFirst() {
        WarmStones x = Check.told("stone 9 9 0;" + "person miser 9 0;".repeat(8));
        along(x, 0, 0b11111100, 60, 0, 2, 3, 4, 5, 6, 7);
        along(x, 0, 0b01010101, 1, 0, 0, 2, 4, 6);
        WarmStones y = Check.told("frost 0 0;stone 60 2 0;person miser 0 0;person drain 200 0;person drain 200 0;");
        // The miser takes only of what is there; behind it either drain fills the stone.
        along(y, 0, 0b111, 1, 60, 0, 1, 2);
    }

    private static void passedUpToSize() {
        WarmStones x = Check.told("frost 0 0;stone 60 2 0;person drain 120 0;person drain 118 0;");
        along(x, 0, 0b01, 1, 60, 0);
        along(x, 0, 0b10, 1, 59, 1);
        along(x, 0, 0b11, 60, 60, 0, 1);
        WarmStones each = Check.told("frost 0 0;stone 9 2 0;stone 60 2 0;stone 999 2 0;person drain 200 0;");
        along(each, 0, 1, 1, 9, 0);
        along(each, 1, 1, 1, 60, 0);
        along(each, 2, 1, 1, 100, 0);
    }

    // "TRIED from now": HEAT and WARMTH as they are behind a minute, not as they were told.
    private static void passedFromNow() {
        WarmStones x = Check.told("frost 8 0;stone 100 10 0;stone 100 10 100;person plain 80 0;person plain 88 0;");
        x.sit(0, 0);
        x.go(1);
        C.same("WARMTH now", x.person(0, 2), 70);
        C.same("WARMTH of the other", x.person(1, 2), 80);
        C.same("HEAT now", x.stone(0, 2), 10);
        C.same("HEAT of the other", x.stone(1, 2), 90);
        along(x, 0, 0b01, 1, 17, 0);
        along(x, 1, 0b01, 1, 88, 0);
        along(x, 0, 0b10, 1, 18, 1);
        // 0 then 1: 17, then (72 less 17) / 8 more. 1 then 0: 18, then (62 less 18) / 8 more: who sits now stands while it waits.
        along(x, 0, 0b11, 1, 23, 0, 1);
        C.same("it sits as it sat", x.person(0, 3), 0);
    }

    // "each as much as leaves its NEED and what the frost takes in m minutes of standing"
    private static void giftLeavesNeedAndFrost() {
        WarmStones x = Check.told("frost 7 99;person miser 9 9;person plain 100 30;");
        C.same("now", x.gift(0, 0), 70);
        C.same("one minute", x.gift(0, 1), 63);
        C.same("9 minutes", x.gift(0, 9), 7);
        C.same("10 minutes: just nothing", x.gift(0, 10), 0);
        C.same("11 minutes: not below nothing", x.gift(0, 11), 0);
        C.same("99 minutes", x.gift(0, 99), 0);
        int[][] pairs = {{29, 0}, {30, 0}, {31, 1}};
        for (int[] pair : pairs) {
            WarmStones y = Check.told("person plain 0 0;person fat " + pair[0] + " 30;");
            C.same("WARMTH " + pair[0] + " NEED 30", y.gift(0, 0), pair[1]);
        }
    }

    // "(without a NEED: all it has)"
    private static void giftWithoutNeed() {
        C.same("no NEED", Check.told("frost 7 7;person plain 0 0;person fat 100 0;").gift(0, 99), 100);
        C.same("a NEED of 1", Check.told("frost 7 7;person plain 0 0;person fat 100 1;").gift(0, 99), 0);
        C.same("a NEED of 1, now", Check.told("frost 7 7;person plain 0 0;person fat 100 1;").gift(0, 0), 99);
        C.same("no NEED, nothing", Check.told("frost 7 7;person plain 0 0;person fat 0 0;").gift(0, 0), 0);
    }

    // "a beggar A / 2 (cut) at any rate"
    private static void giftOfABeggar() {
        WarmStones x = Check.told("frost 7 99;stone 9 9 9;person miser 9 9;person beggar 100 30;");
        C.same("ten minutes", x.gift(0, 10), 40);
        x.sit(1, 0);
        C.same("ten minutes, though it sits", x.gift(0, 10), 40);
        C.same("A of 1: nothing", Check.told("frost 1 9;person fat 0 0;person beggar 100 30;").gift(0, 99), 70);
        C.same("A of 99", Check.told("frost 99 9;person fat 0 0;person beggar 9999 30;").gift(0, 99), 9999 - 30 - 99 * 49);
    }

    // "what all others can give now .. sum"
    private static void giftOfAllOthers() {
        WarmStones x = Check.told("person plain 1 0;person plain 2 0;person plain 4 0;person plain 8 0;");
        for (int p = 0; p < 4; p++) {
            C.same("gift to " + p, x.gift(p, 0), 15 - (1 << p));
        }
        C.same("of nobody", Check.told("person plain 9 0;").gift(0, 0), 0);
        C.same("the most", Check.told("person plain 9999 0;".repeat(8)).gift(7, 99), 7 * 9999);
        WarmStones y = Check.told("frost 3 3;person plain 0 0;person plain 50 10;");
        y.go(2);
        C.same("now", y.gift(0, 0), 34);
    }

    // "GIFT to a PERSON (m 0 .. 99). UNKNOWN, OUTSIDE."
    private static void giftBounds() {
        WarmStones x = Check.told("frost 1 1;person plain 200 5;person plain 200 5;");
        C.same("m -1", x.gift(0, -1), OUTSIDE);
        C.same("m 0", x.gift(0, 0), 195);
        C.same("m 99", x.gift(0, 99), 96);
        C.same("m 100", x.gift(0, 100), OUTSIDE);
        for (int p : new int[] {-2, -1, 2, 3}) {
            C.same("p " + p, x.gift(p, 0), UNKNOWN);
            C.same("UNKNOWN ahead of OUTSIDE", x.gift(p, 100), UNKNOWN);
        }
        for (int far : FAR) {
            C.same("m " + far, x.gift(0, far), OUTSIDE);
            C.same("p " + far, x.gift(far, 0), UNKNOWN);
        }
    }

    // "HEAT v felt on a STONE, within e either way": behind one minute the stone has 110.
    private static void palmsWithin() {
        WarmStones x = Check.told("frost 0 0;stone 9999 2 100;person plain 180 0;");
        int[][] dues = {{110, 0, 1}, {109, 0, 0}, {111, 0, 0}, {100, 10, 1}, {99, 10, 0}, {120, 10, 1}, {121, 10, 0}, {0, 110, 1}, {0, 109, 0},
            {9999, 9889, 1}, {9999, 9888, 0}, {0, 9999, 1}, {9999, 9999, 1}};
        for (int[] due : dues) {
            C.same("v " + due[0] + " e " + due[1], x.palms(0, 1, due[0], due[1], NONE), due[2]);
        }
        WarmStones none = Check.told("frost 0 0;stone 9999 2 0;person miser 0 0;");
        C.same("no HEAT felt", none.palms(0, 60, 0, 0, NONE), 60);
        C.same("some HEAT felt", none.palms(0, 60, 1, 0, NONE), 0);
    }

    // "PAIRS of a PERSON and j (1 to m)", "m 1 .. 60"
    private static void palmsMinutes() {
        WarmStones x = Check.told("stone 9 9 9;person miser 9 0;person miser 9 0;");
        C.same("m 0", x.palms(0, 0, 0, 9999, NONE), OUTSIDE);
        C.same("m 1", x.palms(0, 1, 0, 9999, NONE), 2);
        C.same("m 1: the first", x.palms(0, 1, 0, 9999, 0), 1);
        C.same("m 1: the second", x.palms(0, 1, 0, 9999, 1), 101);
        C.same("m 60", x.palms(0, 60, 0, 9999, NONE), 120);
        C.same("m 60: the first", x.palms(0, 60, 0, 9999, 0), 1);
        C.same("m 60: the last of PERSON 0", x.palms(0, 60, 0, 9999, 59), 60);
        C.same("m 60: the first of PERSON 1", x.palms(0, 60, 0, 9999, 60), 101);
        C.same("m 60: the last", x.palms(0, 60, 0, 9999, 119), 160);
        C.same("m 60: not so many", x.palms(0, 60, 0, 9999, 120), NONE);
        C.same("m 61", x.palms(0, 61, 0, 9999, NONE), OUTSIDE);
    }

    // "how many, the i-th (PERSON by PERSON, j rising)", "NONE: not so many"
    private static void palmsNth() {
        WarmStones x = Check.told("frost 0 0;stone 99 2 0;person miser 9 0;person drain 40 0;person miser 9 0;person drain 40 0;");
        // A drain gives 20 and nothing more; so behind three minutes: 5, 10, 20; by a miser none.
        int[] due = {102, 103, 302, 303};
        C.same("how many", x.palms(0, 3, 15, 5, NONE), 4);
        for (int i = 0; i < due.length; i++) {
            C.same("the " + i + "-th", x.palms(0, 3, 15, 5, i), due[i]);
        }
        for (int i : new int[] {4, 5, 100, Integer.MAX_VALUE, -2, -3, UNKNOWN, OUTSIDE, Integer.MIN_VALUE}) {
            C.same("the " + i + "-th", x.palms(0, 3, 15, 5, i), NONE);
        }
        C.same("none fits", x.palms(0, 3, 90, 5, NONE), 0);
        C.same("none fits: the first", x.palms(0, 3, 90, 5, 0), NONE);
        WarmStones eight = Check.told("stone 9 9 9;" + "person miser 9 0;".repeat(8));
        C.same("of eight", eight.palms(0, 60, 0, 9999, NONE), 480);
        C.same("the last of eight", eight.palms(0, 60, 0, 9999, 479), 760);
        C.same("of nobody", Check.told("stone 9 9 9;").palms(0, 60, 0, 9999, NONE), 0);
        C.same("of nobody: the first", Check.told("stone 9 9 9;").palms(0, 60, 0, 9999, 0), NONE);
    }

    // "it sits on it, as it is now, for j minutes from now, then nobody, while all others stand"
    private static void palmsThenNobody() {
        WarmStones x = Check.told("frost 0 0;stone 999 10 100;stone 999 9 0;person plain 180 0;person drain 900 0;");
        x.sit(1, 0);
        x.sit(0, 1);
        // PERSON 0: 110, then 99, 90; or 117 (163 left), then 106; or 122.
        int[] heats = {90, 106, 122};
        for (int j = 1; j <= 3; j++) {
            C.same("three minutes, " + j + " of them", x.palms(0, 3, heats[j - 1], 0, 0), j);
        }
        WarmStones y = Check.told("frost 5 10;stone 999 10 100;person plain 180 0;");
        y.go(2);
        // From now: 81 and 170: 92 (159, 149), 99 (142, 132), 103.
        C.same("as it is now", y.palms(0, 3, 103, 0, 0), 3);
    }

    // "(m 1 .. 60, v, e 0 .. 9999)", "UNKNOWN, OUTSIDE."
    private static void palmsBounds() {
        WarmStones x = Check.told("stone 9 9 9;stone 9 9 9;person miser 9 0;");
        for (int no : new int[] {-1, 10000}) {
            C.same("v " + no, x.palms(0, 1, no, 0, NONE), OUTSIDE);
            C.same("e " + no, x.palms(0, 1, 0, no, NONE), OUTSIDE);
            C.same("v " + no + " for any i", x.palms(0, 1, no, 0, -2), OUTSIDE);
        }
        C.same("m -1", x.palms(0, -1, 0, 0, NONE), OUTSIDE);
        for (int b : new int[] {-2, -1, 2, 3}) {
            C.same("b " + b, x.palms(b, 1, 0, 0, NONE), UNKNOWN);
            C.same("UNKNOWN ahead of OUTSIDE", x.palms(b, 0, -1, -1, -2), UNKNOWN);
        }
        for (int far : FAR) {
            C.same("b " + far, x.palms(far, 1, 0, 0, NONE), UNKNOWN);
            C.same("m " + far, x.palms(0, far, 0, 0, NONE), OUTSIDE);
            C.same("v " + far, x.palms(0, 1, far, 0, NONE), OUTSIDE);
            C.same("e " + far, x.palms(0, 1, 0, far, NONE), OUTSIDE);
        }
        C.same("the last STONE", x.palms(1, 1, 9, 0, NONE), 1);
    }

    // "how many minutes (999 at most) go by .. before anybody is COLD"
    private static void safeMinutes() {
        for (int warmth : new int[] {1, 2, 3, 500, 998, 999, 1000, 1001, 9999}) {
            C.same("WARMTH " + warmth, Check.told("frost 1 1;person plain " + warmth + " 1;").safe(), Math.min(999, warmth - 1));
        }
        C.same("nobody", new WarmStones().safe(), 999);
        C.same("no NEED", Check.told("person plain 0 0;").safe(), 999);
        C.same("the first of all", Check.told("frost 1 1;person plain 9 1;person plain 5 1;person plain 7 1;").safe(), 4);
        C.same("the last of eight", Check.told("frost 1 1;" + "person plain 9 1;".repeat(7) + "person plain 5 1;").safe(), 4);
    }

    // "(those that are COLD behind the first: 0)"
    private static void safeBehindTheFirst() {
        C.same("COLD behind the first", Check.told("frost 3 0;person plain 10 8;").safe(), 0);
        C.same("not behind the first", Check.told("frost 3 0;person plain 10 7;").safe(), 1);
        WarmStones x = Check.told("frost 0 0;stone 999 9 999;person plain 10 50;");
        C.same("COLD and stands", x.safe(), 0);
        x.sit(0, 0);
        C.same("COLD now, warm behind the first", x.safe(), 999);
    }

    // "all as they sit now"
    private static void safeAsTheySit() {
        WarmStones x = Check.told("frost 1 2;stone 99 2 50;person plain 50 40;");
        C.same("stands", x.safe(), 10);
        x.sit(0, 0);
        // 48, 46, 44, 42; then the stone has 8 more and gives 1 each minute: 41, 40, 39.
        C.same("sits", x.safe(), 6);
        x.sit(0, NONE);
        C.same("stands again", x.safe(), 10);
        x.go(3);
        C.same("from now", x.safe(), 7);
    }

    // "nothing changes by it (MINUTES OWNED, fines, too)"
    private static void nothingChanges() {
        WarmStones x = Check.told("frost 6 2;fine 5;stone 500 20 300;stone 200 10 0;person plain 400 380;person fat 900 0;person miser 9 15;");
        x.sit(0, 0);
        x.own(0, 0, 3);
        x.own(2, 1, 4);
        x.seed(9);
        x.write(0, 300);
        x.keep(1);
        x.go(2);
        String before = Check.seen(x);
        x.seating(60, 0);
        C.same("by seating", Check.seen(x), before);
        x.passed(1, 7, 60, 0);
        C.same("by passed", Check.seen(x), before);
        x.gift(1, 9);
        C.same("by gift", Check.seen(x), before);
        x.palms(0, 60, 300, 99, NONE);
        C.same("by palms", Check.seen(x), before);
        x.safe();
        C.same("by safe", Check.seen(x), before);
        x.judge();
        C.same("by judge", Check.seen(x), before);
        C.same("no image", x.goBack(0), NOT);
        x.goBack(1);
        C.same("the image neither", x.told(3), 0);
    }
}
