/** THE BOOK, BY DRAWS, IMAGES, and promises 20 to 25: each sentence that names a boundary has a test of its own here. */
final class BookEdgesTest {
    private static final Check C = new Check("BookEdgesTest");
    private static final int NONE = WarmStones.NONE, UNKNOWN = WarmStones.UNKNOWN, OUTSIDE = WarmStones.OUTSIDE;
    private static final int NOT = WarmStones.NOT, FULL = WarmStones.FULL;
    private static final int[] FAR = {Integer.MIN_VALUE, Integer.MIN_VALUE + 1, UNKNOWN, -100, Integer.MAX_VALUE - 1, Integer.MAX_VALUE};

    public static void main(String[] args) {
        writeHeats();
        writeUnknown();
        writeUpTo30();
        tearEmpties();
        judgeWithoutBook();
        judgeNow();
        judgeMinuteByMinute();
        judgeFirstWrong();
        judgeTheLastOf30();
        judgeAsTheySit();
        seedBounds();
        seedIsZeroAtFirst();
        seedWrapsAround();
        drawOfFourIsNought();
        drawOfStonesAndOneMore();
        drawOfATakenStone();
        drawOfItsOwnStone();
        drawInOrder();
        drawWithoutStones();
        imageNumbers();
        imageNotKept();
        imageKeepsHeats();
        imageKeepsWarmths();
        imageKeepsSeats();
        imageKeepsColdMinutes();
        imageKeepsOwned();
        imageKeepsStolenAndOwed();
        imageKeepsLostAndMinute();
        imageKeepsSeed();
        imageKeepsNoMore();
        imagesAreTwo();
        imageStays();
        imageIsKeptAnew();
        C.end();
    }

    private static WarmStones town() {
        return Check.told("frost 6 2;fine 5;stone 500 20 300;stone 200 10 80;person plain 400 390;person fat 90 100;");
    }

    // "(HEAT 0 .. 9999)"
    private static void writeHeats() {
        WarmStones x = Check.told("stone 5 9 5;");
        C.same("HEAT -1", x.write(0, -1), OUTSIDE);
        C.same("HEAT 0", x.write(0, 0), 1);
        C.same("HEAT 9999, above the SIZE", x.write(0, 9999), 2);
        C.same("HEAT 10000", x.write(0, 10000), OUTSIDE);
        for (int far : FAR) {
            C.same("HEAT " + far, x.write(0, far), OUTSIDE);
        }
        C.same("two entries", x.told(8), 2);
    }

    private static void writeUnknown() {
        WarmStones x = Check.told("stone 5 9 5;".repeat(9));
        C.same("the last STONE", x.write(8, 0), 1);
        for (int b : new int[] {-2, -1, 9, 10}) {
            C.same("STONE " + b, x.write(b, 0), UNKNOWN);
            C.same("UNKNOWN ahead of OUTSIDE", x.write(b, -1), UNKNOWN);
        }
        for (int far : FAR) {
            C.same("STONE " + far, x.write(far, 0), UNKNOWN);
        }
        C.same("one entry", x.told(8), 1);
    }

    // "30 at most", "FULL (30)"
    private static void writeUpTo30() {
        WarmStones x = Check.told("stone 5 9 0;");
        for (int k = 1; k <= 30; k++) {
            C.same("entry " + k, x.write(0, 0), k);
        }
        C.same("one more", x.write(0, 1), FULL);
        C.same("OUTSIDE ahead of FULL", x.write(0, 10000), OUTSIDE);
        C.same("UNKNOWN ahead of FULL", x.write(1, 0), UNKNOWN);
        C.same("30 entries", x.told(8), 30);
        C.same("as they were", x.judge(), NONE);
        x.tear();
        C.same("room again", x.write(0, 0), 1);
    }

    // "THE BOOK is empty: how many entries it had."
    private static void tearEmpties() {
        WarmStones x = Check.told("stone 5 9 0;");
        C.same("of none", x.tear(), 0);
        x.write(0, 1);
        C.same("of one", x.tear(), 1);
        C.same("of none again", x.tear(), 0);
        C.same("no entries", x.told(8), 0);
        for (int k = 0; k < 30; k++) {
            x.write(0, 1);
        }
        C.same("of 30", x.tear(), 30);
        C.same("nothing WRONG", x.judge(), NONE);
    }

    // "WRONG; NONE."
    private static void judgeWithoutBook() {
        C.same("of a new object", new WarmStones().judge(), NONE);
        C.same("of a town", town().judge(), NONE);
    }

    // "(entry 0: now)"
    private static void judgeNow() {
        for (int heat : new int[] {299, 300, 301, 0, 9999}) {
            WarmStones x = town();
            x.write(0, heat);
            C.same("HEAT " + heat, x.judge(), heat == 300 ? NONE : 0);
        }
    }

    // "entry j is told of the minute j from now on": an empty stone of 8 by 2: 8, 4, 2, 1, 0, 0.
    private static void judgeMinuteByMinute() {
        WarmStones x = Check.told("stone 9 9 9;stone 9 2 8;");
        int[] heats = {8, 4, 2, 1, 0, 0};
        for (int heat : heats) {
            x.write(1, heat);
            C.same("all right up to " + heat, x.judge(), NONE);
        }
        x.tear();
        x.write(1, 8);
        x.write(0, 8);
        x.write(1, 2);
        C.same("of one stone and another", x.judge(), NONE);
        C.same("nothing changes by it", x.stone(1, 2), 8);
    }

    // "WRONG: the first that is other"
    private static void judgeFirstWrong() {
        WarmStones x = Check.told("stone 9 2 8;");
        x.write(0, 8);
        x.write(0, 5);
        C.same("the second", x.judge(), 1);
        x.write(0, 3);
        C.same("still the second", x.judge(), 1);
        x.go(1);
        C.same("a minute later the first", x.judge(), 0);
    }

    private static void judgeTheLastOf30() {
        for (int wrong : new int[] {0, 28, 29}) {
            WarmStones x = Check.told("stone 9999 999 500;");
            for (int k = 0; k < 30; k++) {
                x.write(0, k == wrong ? 9999 : 500 - k);
            }
            C.same("the " + wrong + "-th of 30", x.judge(), wrong);
        }
        WarmStones right = Check.told("stone 9999 999 500;");
        for (int k = 0; k < 30; k++) {
            right.write(0, 500 - k);
        }
        C.same("all 30 right", right.judge(), NONE);
    }

    // "all as they sit now"
    private static void judgeAsTheySit() {
        WarmStones x = Check.told("frost 0 0;stone 999 10 100;person plain 180 0;");
        x.write(0, 100);
        x.write(0, 110);
        C.same("nobody sits", x.judge(), 1);
        x.sit(0, 0);
        C.same("it sits", x.judge(), NONE);
        x.sit(0, NONE);
        C.same("it stands again", x.judge(), 1);
        x.tear();
        x.write(0, 100);
        x.write(0, 90);
        C.same("nobody sits", x.judge(), NONE);
    }

    // "THE SEED becomes v (0 .. 2147483647): what it was. OUTSIDE."
    private static void seedBounds() {
        WarmStones x = new WarmStones();
        C.same("-1", x.seed(-1), OUTSIDE);
        C.same("the lowest", x.seed(Integer.MIN_VALUE), OUTSIDE);
        C.same("still 0", x.seed(2147483647), 0);
        C.same("-1", x.seed(-1), OUTSIDE);
        C.same("the highest", x.seed(0), 2147483647);
        C.same("0", x.seed(1), 0);
        C.same("1", x.seed(1), 1);
    }

    // "THE SEED (0 at first: each DRAW it becomes it times 1103515245 and 12345, left over by 2 to the 31"
    private static void seedIsZeroAtFirst() {
        WarmStones x = Check.told("person plain 9 9;");
        C.same("0 at first", x.seed(0), 0);
        x.seed(1);
        x.drift(1);
        // 1103515245 and 12345: by 65536 16838, by 4 2 are left over: it stays.
        C.same("one draw", x.seed(0), 1103527590);
        x.seed(0);
        x.drift(1);
        // 12345: by 65536 none: it gets up and draws of one.
        C.same("two draws", x.seed(0), 1406932606);
    }

    private static void seedWrapsAround() {
        WarmStones x = Check.told("person plain 9 9;");
        x.seed(2147483647);
        x.drift(1);
        // 2 to the 31 less 1103515245, and 12345: by 65536 15929, by 4 1 is left over.
        C.same("the highest", x.seed(3), 1043980748);
        x.drift(1);
        // Three times 1103515245 and 12345 is 3310558080, less 2 to the 31.
        C.same("left over by 2 to the 31", x.seed(0), 1163074432);
        x.seed(12345);
        for (int k = 0; k < 200; k++) {
            x.drift(1);
            int seed = x.seed(0);
            x.seed(seed);
            C.holds("never below 0", seed >= 0);
        }
    }

    // "a DRAW of 4: on 0 it gets up": seeds 0, 4, 1, 3 draw 0, 1, 2, 3.
    private static void drawOfFourIsNought() {
        int[][] pairs = {{0, 0}, {4, 1}, {1, 1}, {3, 1}};
        for (int[] pair : pairs) {
            WarmStones x = Check.told("stone 9 9 9;person plain 9 9;");
            x.sit(0, 0);
            x.seed(pair[0]);
            x.drift(1);
            int drawn = x.seed(0);
            C.same("seed " + pair[0] + ": one draw", drawn == (int) ((pair[0] * 1103515245L + 12345) % (1L << 31)) ? 1 : 0, pair[1]);
            C.same("seed " + pair[0] + ": it sits", x.person(0, 3), 0);
        }
        WarmStones up = Check.told("stone 9 9 9;person plain 9 9;");
        up.sit(0, 0);
        up.seed(2);
        up.drift(1);
        C.same("it gets up and stands by the last one", up.person(0, 3), NONE);
        C.same("the minute comes behind that: it stole none", up.person(0, 5), 0);
    }

    // "goes to a DRAW of STONES and one more: there it sits .. by that last one, it stands"
    private static void drawOfStonesAndOneMore() {
        // From these seeds the first draw of 4 is 0, and the draw of ten that follows is the place in the row.
        int[] seeds = {21, 19, 14, 99, 40, 9, 7, 2, 0, 26};
        for (int to = 0; to < 10; to++) {
            WarmStones x = Check.told("stone 9 9 9;".repeat(9) + "person plain 9 9;");
            x.seed(seeds[to]);
            x.drift(1);
            C.same("nine STONES: drawn " + to, x.person(0, 3), to == 9 ? NONE : to);
        }
        int[] ofTwo = {0, 2};
        for (int to = 0; to < 2; to++) {
            WarmStones x = Check.told("stone 9 9 9;person plain 9 9;");
            x.seed(ofTwo[to]);
            x.drift(1);
            C.same("one STONE: drawn " + to, x.person(0, 3), to == 1 ? NONE : to);
        }
    }

    // "if nobody sits there; else .. it stands"
    private static void drawOfATakenStone() {
        WarmStones x = Check.told("stone 9 9 9;stone 9 9 9;person plain 9 9;person plain 9 9;");
        x.sit(0, 1);
        x.sit(1, 0);
        x.drift(1);
        // Seed 0: 12345 (0 of 4), 1406932606 (0 of 3); 654583775 (0 of 4), 1449466924 (1 of 3).
        C.same("where another sat: it stands", x.person(0, 3), NONE);
        C.same("where nobody sits by then: it sits", x.person(1, 3), 1);
        C.same("four draws", x.seed(0), 1449466924);
        C.same("who sits in the minute", x.stone(0, 3), NONE);
    }

    private static void drawOfItsOwnStone() {
        WarmStones x = Check.told("stone 9 9 9;stone 9 9 9;person plain 9 9;");
        x.sit(0, 0);
        x.drift(1);
        C.same("it gets up first, so nobody sits there", x.person(0, 3), 0);
        C.same("and sat all the minute", x.person(0, 5), 1);
    }

    // "each PERSON in order": eight draw one behind the other, then the MINUTE.
    private static void drawInOrder() {
        WarmStones x = Check.told("stone 9 9 9;".repeat(9) + "person plain 9 9;".repeat(8));
        long seed = 77;
        int[] seats = {NONE, NONE, NONE, NONE, NONE, NONE, NONE, NONE};
        x.seed(77);
        for (int minute = 0; minute < 20; minute++) {
            for (int p = 0; p < 8; p++) {
                seed = next(seed);
                if (seed / 65536 % 4 == 0) {
                    seed = next(seed);
                    seats[p] = NONE;
                    int to = (int) (seed / 65536 % 10);
                    seats[p] = to == 9 || taken(seats, to) ? NONE : to;
                }
            }
            x.drift(1);
            for (int p = 0; p < 8; p++) {
                C.same("minute " + minute + ", PERSON " + p, x.person(p, 3), seats[p]);
            }
        }
        C.same("THE SEED", x.seed(0), seed);
    }

    private static long next(long seed) {
        return (seed * 1103515245L + 12345L) % 2147483648L;
    }

    private static boolean taken(int[] seats, int stone) {
        for (int seat : seats) {
            if (seat == stone) {
                return true;
            }
        }
        return false;
    }

    private static void drawWithoutStones() {
        WarmStones x = Check.told("person plain 9 9;");
        x.drift(1);
        C.same("a DRAW of one all the same", x.seed(0), 1406932606);
        C.same("it stands", x.person(0, 3), NONE);
        WarmStones nobody = Check.told("stone 9 9 9;");
        nobody.seed(5);
        nobody.drift(999);
        C.same("nobody draws", nobody.seed(0), 5);
        C.same("the MINUTE goes on", nobody.told(3), 999);
    }

    // "IMAGES 0, 1", "UNKNOWN."
    private static void imageNumbers() {
        WarmStones x = town();
        C.same("keep -1", x.keep(-1), UNKNOWN);
        C.same("keep 2", x.keep(2), UNKNOWN);
        C.same("goBack -1: UNKNOWN ahead of NOT", x.goBack(-1), UNKNOWN);
        C.same("goBack 2: UNKNOWN ahead of NOT", x.goBack(2), UNKNOWN);
        for (int far : FAR) {
            C.same("keep " + far, x.keep(far), UNKNOWN);
            C.same("goBack " + far, x.goBack(far), UNKNOWN);
        }
        C.same("keep 32", x.keep(32), UNKNOWN);
        C.same("none was kept: 0", x.goBack(0), NOT);
        C.same("none was kept: 1", x.goBack(1), NOT);
        C.same("keep 0", x.keep(0), 1);
        C.same("keep 1", x.keep(1), 1);
        C.same("goBack 0", x.goBack(0), 1);
        C.same("goBack 1", x.goBack(1), 1);
        C.same("goBack 32", x.goBack(32), UNKNOWN);
        C.same("goBack 33", x.goBack(33), UNKNOWN);
    }

    // "NOT: it was not kept."
    private static void imageNotKept() {
        for (int kept = 0; kept < 2; kept++) {
            WarmStones x = town();
            x.go(2);
            C.same("not kept yet", x.goBack(kept), NOT);
            x.keep(kept);
            x.go(1);
            String before = Check.seen(x);
            C.same("the other was not", x.goBack(1 - kept), NOT);
            C.same("nothing changes", Check.seen(x), before);
            C.same("this one was", x.goBack(kept), 1);
        }
    }

    private static void imageKeepsHeats() {
        WarmStones x = Check.told("stone 9 2 1;stone 9 2 2;stone 9 2 3;stone 9 2 4;stone 9 2 5;stone 9 2 6;stone 9 2 7;stone 9 2 8;stone 9 2 9;");
        x.keep(0);
        x.go(9);
        C.same("all is LOST", x.told(10), 0);
        x.goBack(0);
        for (int b = 0; b < 9; b++) {
            C.same("HEAT of " + b, x.stone(b, 2), b + 1);
        }
    }

    private static void imageKeepsWarmths() {
        WarmStones x = Check.told("person fat 1 0;person fat 2 0;person fat 3 0;person fat 4 0;person fat 5 0;person fat 6 0;person fat 7 0;person fat 8 0;");
        x.keep(1);
        x.go(9);
        C.same("all is LOST", x.told(10), 0);
        x.goBack(1);
        for (int p = 0; p < 8; p++) {
            C.same("WARMTH of " + p, x.person(p, 2), p + 1);
        }
    }

    private static void imageKeepsSeats() {
        WarmStones x = Check.told("stone 9 9 9;".repeat(9) + "person fat 1 1;".repeat(8));
        for (int p = 0; p < 8; p++) {
            x.sit(p, p + 1);
        }
        x.keep(0);
        for (int p = 0; p < 8; p++) {
            x.sit(p, p);
        }
        x.goBack(0);
        for (int p = 0; p < 8; p++) {
            C.same("PERSON " + p + " sits", x.person(p, 3), p + 1);
            C.same("on STONE " + p, x.stone(p, 3), p - 1);
        }
        x.sit(7, NONE);
        x.keep(1);
        x.sit(7, 0);
        x.goBack(1);
        C.same("it stands", x.person(7, 3), NONE);
    }

    private static void imageKeepsColdMinutes() {
        WarmStones x = Check.told("frost 0 0;person fat 1 2;person fat 1 1;person fat 0 2;");
        x.go(3);
        x.keep(0);
        x.go(4);
        C.same("COLD minutes since", x.told(9), 14);
        x.goBack(0);
        C.same("COLD minutes of all", x.told(9), 6);
        C.same("of 0, 1, 2", x.person(0, 4) * 100 + x.person(1, 4) * 10 + x.person(2, 4), 303);
    }

    private static void imageKeepsOwned() {
        WarmStones x = Check.told("stone 1 2 0;".repeat(9) + "person fat 1 1;".repeat(8));
        x.own(0, 0, 3);
        x.own(7, 8, 4);
        x.keep(0);
        x.own(0, 0, 5);
        x.own(3, 3, 5);
        x.trade(7, 6, 8, 4);
        x.goBack(0);
        C.same("of 0, of 7", x.owned(0, 0) * 10 + x.owned(7, 8), 34);
        C.same("of others nothing", x.owned(3, 3) + x.owned(6, 8), 0);
    }

    // "what was STOLEN, owed"
    private static void imageKeepsStolenAndOwed() {
        WarmStones x = town();
        x.go(2);
        x.sit(0, 0);
        x.sit(1, 1);
        x.go(3);
        x.keep(1);
        C.same("forgiven 0", x.forgive(0), 10);
        C.same("forgiven 1", x.forgive(1), 10);
        x.goBack(1);
        C.same("STOLEN", x.person(0, 5) * 10 + x.person(1, 5), 33);
        C.same("owed", x.person(0, 6) * 100 + x.person(1, 6), 1010);
    }

    // "LOST, THE MINUTE"
    private static void imageKeepsLostAndMinute() {
        WarmStones x = Check.told("frost 1 1;person fat 50 0;");
        x.go(4);
        x.keep(0);
        x.go(5);
        C.same("LOST since", x.told(4), 9);
        x.goBack(0);
        C.same("LOST", x.told(4), 4);
        C.same("THE MINUTE", x.told(3), 4);
        x.go(1);
        C.same("it goes on", x.told(3) * 10 + x.told(4), 55);
    }

    private static void imageKeepsSeed() {
        WarmStones x = town();
        x.seed(2147483647);
        x.keep(0);
        x.seed(0);
        x.keep(1);
        x.seed(7);
        x.goBack(0);
        C.same("of image 0", x.seed(8), 2147483647);
        x.goBack(1);
        C.same("of image 1", x.seed(8), 0);
    }

    // THE BOOK, THE TEXT, its FAULT are not among what is kept.
    private static void imageKeepsNoMore() {
        WarmStones x = town();
        x.write(0, 300);
        x.keep(0);
        x.tear();
        Check.feed(x, "fine 9;");
        x.goBack(0);
        C.same("THE BOOK is torn", x.told(8), 0);
        C.same("THE TEXT is as it was fed", x.told(2), 7);
        x.write(0, 300);
        x.write(0, 1);
        x.goBack(0);
        C.same("THE BOOK is as it was written", x.told(8), 2);
        C.same("with what was written", x.judge(), 1);
        Check.tell(x, "x");
        x.goBack(0);
        C.same("the FAULT is of the latest town()", x.fault(), 7);
        WarmStones none = town();
        none.keep(0);
        none.keep(1);
        none.goBack(0);
        C.same("an image holds no other image", none.goBack(1), 1);
    }

    private static void imagesAreTwo() {
        WarmStones x = town();
        x.keep(0);
        x.go(1);
        x.keep(1);
        x.go(1);
        x.goBack(0);
        C.same("image 0", x.told(3), 0);
        x.goBack(1);
        C.same("image 1", x.told(3), 1);
        x.keep(0);
        x.goBack(1);
        x.goBack(0);
        C.same("image 0 is now like image 1", x.told(3), 1);
    }

    // "What is so becomes IMAGE i": what comes behind it does not touch the image.
    private static void imageStays() {
        WarmStones x = town();
        x.sit(0, 0);
        x.own(0, 0, 2);
        x.own(1, 1, 9);
        x.seed(5);
        x.go(3);
        x.keep(0);
        String kept = Check.seen(x);
        for (int k = 0; k < 3; k++) {
            x.own(1, 1, 5);
            x.drift(9);
            x.forgive(0);
            C.holds("it went on", !Check.seen(x).equals(kept));
            C.same("goBack", x.goBack(0), 1);
            C.same("as it was kept", Check.seen(x), kept);
        }
    }

    // "IMAGE i becomes what is so"
    private static void imageIsKeptAnew() {
        WarmStones x = town();
        for (int k = 0; k < 5; k++) {
            C.same("keep", x.keep(1), 1);
            x.go(1);
        }
        x.goBack(1);
        C.same("the latest", x.told(3), 4);
    }
}
