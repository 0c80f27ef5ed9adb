/** Promises 15 to 19: seating, passed, gift, palms, safe; and that nothing changes by what is tried. */
final class TriedTest {
    private static final Check C = new Check("TriedTest");
    private static final int NONE = WarmStones.NONE, UNKNOWN = WarmStones.UNKNOWN, OUTSIDE = WarmStones.OUTSIDE;
    private static final int NOT = WarmStones.NOT;
    private static final int[] FAR = {Integer.MIN_VALUE, -2, 99, Integer.MAX_VALUE};

    public static void main(String[] args) {
        seatingFewestCold();
        seatingLeastWarmth();
        seatingFirstOfLike();
        seatingFromNow();
        seatingRefusals();
        passedBestOrder();
        passedWaitingInFrost();
        passedFirstOfLike();
        passedRefusals();
        gift();
        palms();
        palmsWithFrost();
        palmsRefusals();
        palmsWithoutSuchPair();
        safe();
        nothingChanges();
        C.end();
    }

    private static void seated(WarmStones x, int m, int cold, int least, int... stones) {
        C.same("seating " + m + ": cold", x.seating(m, 0), cold);
        C.same("seating " + m + ": least", x.seating(m, 1), least);
        for (int p = 0; p < stones.length; p++) {
            C.same("seating " + m + ": person " + p, x.seating(m, 2 + p), stones[p]);
        }
    }

    private static void seatingFewestCold() {
        WarmStones x = Check.told("frost 5 0;stone 100 2 50;person plain 50 46;person plain 50 50;");
        seated(x, 3, 3, 35, NONE, 0);
        WarmStones y = Check.told("frost 5 0;stone 100 2 50;person plain 50 50;person plain 50 41;");
        seated(y, 3, 2, 35, 0, NONE);
        WarmStones z = Check.told("frost 5 0;stone 100 2 50;stone 100 2 50;person plain 50 50;person plain 50 50;person plain 50 0;");
        seated(z, 60, 0, 0, 0, 1, NONE);
        WarmStones four = Check.told("frost 9 0;stone 99 2 9;stone 50 2 50;stone 50 2 50;stone 50 2 50;"
            + "person plain 50 50;person plain 50 50;person drain 9 0;person plain 50 50;");
        seated(four, 2, 0, 9, 1, 2, 0, 3);
        WarmStones most = Check.told("frost 9 0;" + "stone 99 2 0;".repeat(5) + "stone 50 2 50;".repeat(4) + "person plain 50 50;".repeat(4));
        seated(most, 60, 0, 50, 5, 6, 7, 8);
        WarmStones allCold = Check.told("frost 0 0;" + "person plain 1 9999;".repeat(4));
        seated(allCold, 60, 240, 1, NONE, NONE, NONE, NONE);
    }

    private static void seatingLeastWarmth() {
        WarmStones x = Check.told("frost 0 0;stone 200 2 100;stone 200 2 200;person plain 40 0;");
        seated(x, 1, 0, 60, 1);
        WarmStones y = Check.told("frost 0 0;stone 200 2 200;person plain 40 0;person fat 40 0;");
        seated(y, 1, 0, 40, NONE, NONE);
        WarmStones z = Check.told("frost 0 0;stone 200 2 200;person plain 40 0;person fat 30 0;");
        seated(z, 1, 0, 40, NONE, 0);
    }

    private static void seatingFirstOfLike() {
        WarmStones x = Check.told("frost 5 0;stone 100 2 50;person plain 50 50;person plain 50 50;");
        seated(x, 3, 3, 35, NONE, 0);
        WarmStones y = Check.told("frost 5 0;stone 100 2 50;stone 100 3 50;person plain 50 50;person plain 50 50;");
        seated(y, 3, 0, 50, 0, 1);
        WarmStones z = Check.told("frost 0 0;stone 100 2 50;person plain 50 50;");
        seated(z, 1, 0, 50, NONE);
        WarmStones none = Check.told("person plain 9 9;person fat 5 1;");
        seated(none, 2, 3, 0, NONE, NONE);
    }

    private static void seatingFromNow() {
        WarmStones x = Check.told("frost 10 0;stone 100 2 50;stone 100 2 100;person plain 60 50;");
        x.sit(0, 0);
        x.go(1);
        C.same("behind a minute: warmth", x.person(0, 2), 59);
        C.same("behind a minute: heat", x.stone(1, 2), 50);
        // On stone 0 (51): flow 1; on stone 1 (50): flow 1; so both leave 58, the first stays.
        seated(x, 1, 0, 58, 0);
    }

    private static void seatingRefusals() {
        WarmStones x = Check.told("stone 9 9 9;person plain 9 9;person plain 9 9;");
        for (int m : new int[] {0, -1, 61, Integer.MIN_VALUE, Integer.MAX_VALUE}) {
            C.same("seating m " + m, x.seating(m, 0), OUTSIDE);
        }
        for (int what : new int[] {-1, 4, 5, Integer.MIN_VALUE, Integer.MAX_VALUE}) {
            C.same("seating what " + what, x.seating(1, what), OUTSIDE);
        }
        WarmStones none = Check.told("stone 9 9 9;");
        C.same("seating: no persons", none.seating(1, 0), NOT);
        C.same("seating: no persons", none.seating(1, 1), NOT);
        C.same("seating: no such person", none.seating(1, 2), OUTSIDE);
        C.same("seating: OUTSIDE ahead of NOT", none.seating(0, 0), OUTSIDE);
        WarmStones four = Check.told("person plain 9 9;".repeat(4));
        C.same("seating: four", four.seating(1, 5), NONE);
        WarmStones five = Check.told("person plain 9 9;".repeat(5));
        C.same("seating: five", five.seating(1, 0), NOT);
        C.same("seating: five", five.seating(1, 6), NOT);
        C.same("seating: OUTSIDE ahead of NOT", five.seating(61, 0), OUTSIDE);
        C.same("seating: OUTSIDE ahead of NOT", five.seating(1, 7), OUTSIDE);
    }

    private static void along(WarmStones x, int b, int set, int m, int heat, int... order) {
        C.same("passed " + set + ": heat", x.passed(b, set, m, 0), heat);
        for (int k = 0; k < order.length; k++) {
            C.same("passed " + set + ": turn " + k, x.passed(b, set, m, 1 + k), order[k]);
        }
    }

    private static void passedBestOrder() {
        WarmStones x = Check.told("frost 0 0;stone 7 2 7;stone 1000 2 0;person drain 800 0;person drain 400 0;person miser 0 0;");
        along(x, 1, 0b011, 1, 500, 1, 0);
        along(x, 1, 0b001, 1, 400, 0);
        along(x, 1, 0b010, 2, 200, 1);
        // The miser takes nothing from a stone without heat: ahead of both it does least harm.
        along(x, 1, 0b111, 1, 500, 2, 1, 0);
        x.sit(0, 0);
        x.sit(2, 1);
        along(x, 1, 0b011, 1, 500, 1, 0);
    }

    private static void passedWaitingInFrost() {
        WarmStones x = Check.told("frost 99 1;stone 1000 2 0;person drain 800 0;person drain 400 0;");
        along(x, 0, 0b11, 1, 450, 1, 0);
        WarmStones y = Check.told("frost 50 0;stone 1000 2 0;person drain 100 0;person beggar 160 0;");
        // First the beggar: 20, then the drain of 50: 35. First the drain: 50, then the beggar of 135: 60.
        along(y, 0, 0b11, 1, 60, 0, 1);
        WarmStones z = Check.told("frost 99 0;stone 1000 2 5;person drain 150 0;person drain 90 0;");
        // First 1: 5, 47 (42 given), then 0 of 51: 49. First 0: 77, then 1 of none.
        along(z, 0, 0b11, 1, 77, 0, 1);
        WarmStones none = Check.told("frost 9 0;stone 100 2 8;person miser 16 0;person plain 2 0;");
        // Whoever comes second has nothing by then and takes 1 of the 8 (the plain one at once takes none).
        along(none, 0, 0b11, 2, 7, 0, 1);
    }

    private static void passedFirstOfLike() {
        WarmStones x = Check.told("stone 10 2 0;" + "person miser 9 0;".repeat(8));
        along(x, 0, 0b00111111, 60, 0, 0, 1, 2, 3, 4, 5);
        along(x, 0, 0b11111100, 60, 0, 2, 3, 4, 5, 6, 7);
        along(x, 0, 0b10000010, 3, 0, 1, 7);
    }

    private static void passedRefusals() {
        WarmStones x = Check.told("stone 10 2 0;" + "person miser 9 0;".repeat(7));
        for (int b : new int[] {-1, 1, Integer.MIN_VALUE, Integer.MAX_VALUE}) {
            C.same("passed b " + b, x.passed(b, 1, 1, 0), UNKNOWN);
        }
        for (int set : new int[] {128, 129, -1, Integer.MIN_VALUE, Integer.MAX_VALUE, 1 << 30}) {
            C.same("passed set " + set, x.passed(0, set, 1, 0), UNKNOWN);
            C.same("passed UNKNOWN ahead of OUTSIDE", x.passed(0, set, 0, 9), UNKNOWN);
        }
        C.same("passed: nobody", x.passed(0, 0, 1, 0), OUTSIDE);
        C.same("passed: seven", x.passed(0, 127, 1, 0), OUTSIDE);
        for (int m : new int[] {0, -1, 61, Integer.MIN_VALUE, Integer.MAX_VALUE}) {
            C.same("passed m " + m, x.passed(0, 1, m, 0), OUTSIDE);
        }
        for (int what : new int[] {-1, 3, Integer.MIN_VALUE, Integer.MAX_VALUE}) {
            C.same("passed what " + what, x.passed(0, 3, 1, what), OUTSIDE);
        }
        WarmStones none = Check.told("stone 9 9 9;");
        C.same("passed: no persons", none.passed(0, 1, 1, 0), UNKNOWN);
        C.same("passed: no persons, none asked", none.passed(0, 0, 1, 0), OUTSIDE);
    }

    private static void gift() {
        WarmStones x = Check.told("frost 7 0;stone 9 9 9;person plain 100 30;person beggar 100 30;person fat 100 0;"
            + "person miser 10 30;person drain 50 50;");
        C.same("gift to 3, now", x.gift(3, 0), 70 + 70 + 100 + 0);
        C.same("gift to 0, now", x.gift(0, 0), 70 + 100);
        C.same("gift to 3, 5 minutes", x.gift(3, 5), 35 + 55 + 100);
        C.same("gift to 3, 10 minutes", x.gift(3, 10), 0 + 40 + 100);
        C.same("gift to 2, 11 minutes", x.gift(2, 11), 37);
        C.same("gift to 2, 99 minutes", x.gift(2, 99), 0);
        x.sit(0, 0);
        C.same("who sits gives likewise", x.gift(3, 5), 35 + 55 + 100);
        for (int m : new int[] {-1, 100, Integer.MIN_VALUE, Integer.MAX_VALUE}) {
            C.same("gift m " + m, x.gift(0, m), OUTSIDE);
            C.same("gift UNKNOWN ahead of OUTSIDE", x.gift(5, m), UNKNOWN);
        }
        for (int p : new int[] {-1, 5, Integer.MIN_VALUE, Integer.MAX_VALUE}) {
            C.same("gift p " + p, x.gift(p, 0), UNKNOWN);
        }
        C.same("gift of seven", Check.told("person fat 9 0;".repeat(8)).gift(7, 1), 63);
        C.same("gift of nobody", Check.told("person fat 9 0;").gift(0, 1), 0);
    }

    private static void palms() {
        WarmStones x = Check.told("frost 0 0;stone 5 5 5;stone 1000 2 0;person plain 800 0;person fat 400 0;");
        C.same("palms 50", x.palms(1, 2, 50, 0, NONE), 2);
        C.same("palms 50, 0th", x.palms(1, 2, 50, 0, 0), 1);
        C.same("palms 50, 1st", x.palms(1, 2, 50, 0, 1), 101);
        C.same("palms 50, 2nd", x.palms(1, 2, 50, 0, 2), NONE);
        C.same("palms: far", x.palms(1, 2, 50, 0, Integer.MAX_VALUE), NONE);
        C.same("palms 160 15", x.palms(1, 2, 160, 15, NONE), 2);
        C.same("palms 160 14", x.palms(1, 2, 160, 14, NONE), 1);
        C.same("palms 160 14, 0th", x.palms(1, 2, 160, 14, 0), 102);
        C.same("palms 140 10", x.palms(1, 2, 140, 10, 0), 102);
        C.same("palms 140 9", x.palms(1, 2, 140, 9, NONE), 0);
        C.same("palms all", x.palms(1, 2, 0, 9999, NONE), 4);
        C.same("palms all, 1st", x.palms(1, 2, 0, 9999, 1), 2);
        C.same("palms all, 3rd", x.palms(1, 2, 9999, 9999, 3), 102);
        x.sit(0, 0);
        x.sit(1, 1);
        C.same("whoever sits where now", x.palms(1, 2, 160, 15, NONE), 2);
        C.same("palms of one minute", x.palms(1, 1, 100, 0, NONE), 2);
        C.same("palms of 60 minutes", x.palms(1, 60, 0, 9999, 60), 101);
        C.same("palms: nobody", Check.told("stone 9 9 9;").palms(0, 5, 0, 9999, NONE), 0);
    }

    private static void palmsWithFrost() {
        WarmStones x = Check.told("frost 9 40;stone 1000 10 100;person plain 300 0;");
        // It sits: 125 (275, 235), 138 (222, 182), 143.
        C.same("palms with frost", x.palms(0, 3, 143, 0, 0), 3);
        C.same("palms, then nobody", x.palms(0, 3, 125, 0, 0), 2);
        // 125, then 113, then 102.
        C.same("palms, then nobody twice", x.palms(0, 3, 102, 0, 0), 1);
    }

    private static void palmsRefusals() {
        WarmStones x = Check.told("stone 10 2 0;person miser 9 0;");
        for (int b : new int[] {-1, 1, Integer.MIN_VALUE, Integer.MAX_VALUE}) {
            C.same("palms b " + b, x.palms(b, 1, 0, 0, NONE), UNKNOWN);
            C.same("palms UNKNOWN ahead of OUTSIDE", x.palms(b, 0, -1, -1, -2), UNKNOWN);
        }
        for (int m : new int[] {0, -1, 61, Integer.MIN_VALUE, Integer.MAX_VALUE}) {
            C.same("palms m " + m, x.palms(0, m, 0, 0, NONE), OUTSIDE);
        }
        for (int v : new int[] {-1, 10000, Integer.MIN_VALUE, Integer.MAX_VALUE}) {
            C.same("palms v " + v, x.palms(0, 1, v, 0, NONE), OUTSIDE);
            C.same("palms e " + v, x.palms(0, 1, 0, v, NONE), OUTSIDE);
        }
        for (int i : new int[] {-2, 0, Integer.MIN_VALUE, Integer.MAX_VALUE}) {
            C.same("palms OUTSIDE for any i", x.palms(0, 0, 0, 0, i), OUTSIDE);
        }
    }

    // No bounds are told of i, so none is OUTSIDE: where there is no such PAIR, it is NONE.
    private static void palmsWithoutSuchPair() {
        WarmStones x = Check.told("stone 10 2 0;person miser 9 0;");
        C.same("palms: one fits", x.palms(0, 1, 0, 9999, NONE), 1);
        C.same("palms: the 0th", x.palms(0, 1, 0, 9999, 0), 1);
        C.same("palms: none fits", x.palms(0, 1, 9, 0, NONE), 0);
        for (int i : new int[] {-2, -3, -100, UNKNOWN, OUTSIDE, Integer.MIN_VALUE, 1, 100, Integer.MAX_VALUE}) {
            C.same("palms: one fits, i " + i, x.palms(0, 1, 0, 9999, i), NONE);
            C.same("palms: none fits, i " + i, x.palms(0, 1, 9, 0, i), NONE);
        }
        C.same("palms: none fits, i 0", x.palms(0, 1, 9, 0, 0), NONE);
        C.same("palms: nobody, i -2", Check.told("stone 9 9 9;").palms(0, 5, 0, 9999, -2), NONE);
    }

    private static void safe() {
        C.same("safe: nobody", Check.told("stone 9 9 9;").safe(), 999);
        C.same("safe: no need", Check.told("person plain 0 0;").safe(), 999);
        C.same("safe 1", Check.told("person plain 10 7;").safe(), 1);
        C.same("safe 0", Check.told("person plain 10 8;").safe(), 0);
        C.same("safe: the first of all", Check.told("person plain 99 7;person fat 40 20;person plain 99 0;").safe(), 6);
        C.same("safe 998", Check.told("frost 1 1;person plain 999 1;").safe(), 998);
        C.same("safe 999", Check.told("frost 1 1;person plain 1000 1;").safe(), 999);
        C.same("safe: no frost", Check.told("frost 0 0;person plain 5 5;").safe(), 999);
        WarmStones x = Check.told("frost 5 0;stone 99 2 50;person plain 50 50;");
        C.same("safe: stands", x.safe(), 0);
        x.sit(0, 0);
        C.same("safe: sits", x.safe(), 999);
        WarmStones y = Check.told("frost 0 0;stone 999 9 999;person plain 10 50;");
        y.sit(0, 0);
        C.same("safe: COLD now, but not behind the first", y.safe(), 999);
    }

    private static void nothingChanges() {
        WarmStones x = Check.told("frost 6 2;fine 5;stone 500 20 300;stone 200 10 0;person plain 400 380;person fat 900 0;person miser 9 15;");
        x.sit(0, 0);
        x.own(0, 0, 3);
        x.seed(9);
        x.write(0, 300);
        x.keep(1);
        String before = Check.seen(x);
        x.seating(60, 0);
        x.seating(20, 3);
        x.passed(1, 7, 60, 0);
        x.passed(0, 5, 6, 1);
        x.gift(1, 9);
        x.palms(0, 60, 300, 99, NONE);
        x.palms(1, 60, 30, 99, 5);
        x.safe();
        x.judge();
        C.same("nothing changes by it", Check.seen(x), before);
        x.goBack(1);
        C.same("nor an image", Check.seen(x), before);
        for (int far : FAR) {
            x.seating(far, far);
            x.passed(far, far, far, far);
            x.gift(far, far);
            x.palms(far, far, far, far, far);
        }
        C.same("nor by what is refused", Check.seen(x), before);
    }
}
