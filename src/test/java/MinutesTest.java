/** Promises 9 to 14: sit, go, drift, own, trade, forgive; and the MINUTE itself. */
final class MinutesTest {
    private static final Check C = new Check("MinutesTest");
    private static final int NONE = WarmStones.NONE, UNKNOWN = WarmStones.UNKNOWN, OUTSIDE = WarmStones.OUTSIDE;
    private static final int NOT = WarmStones.NOT, FULL = WarmStones.FULL;
    private static final int[] FAR = {Integer.MIN_VALUE, -2, 99, Integer.MAX_VALUE};

    public static void main(String[] args) {
        sit();
        flowByKinds();
        flowIsCappedBySize();
        frost();
        frostTakesWhatThereIs();
        emptyStonesCool();
        personsComeAheadOfStones();
        coldMinutes();
        fines();
        usedAndStolen();
        nothingIsLostButToFrost();
        fullTown();
        goBounds();
        driftByHand();
        driftBounds();
        own();
        trade();
        forgive();
        C.end();
    }

    private static void sit() {
        WarmStones x = Check.told("stone 9 2 0;stone 9 2 0;person fat 5 5;person fat 6 6;");
        C.same("sit", x.sit(0, 1), NONE);
        C.same("sit: on the stone", x.stone(1, 3), 0);
        C.same("sit: the person", x.person(0, 3), 1);
        C.same("sit again on its own", x.sit(0, 1), 1);
        String before = Check.seen(x);
        C.same("sit where another sits", x.sit(1, 1), NOT);
        C.same("sit refused", Check.seen(x), before);
        C.same("sit on another", x.sit(0, 0), 1);
        C.same("sit: left", x.stone(1, 3), NONE);
        C.same("sit: free now", x.sit(1, 1), NONE);
        C.same("stand", x.sit(0, NONE), 0);
        C.same("stand again", x.sit(0, NONE), NONE);
        C.same("stand beside another that stands", x.sit(1, NONE), 1);
        for (int bad : FAR) {
            C.same("sit p " + bad, x.sit(bad, 0), UNKNOWN);
            C.same("sit b " + bad, x.sit(0, bad), UNKNOWN);
        }
        C.same("sit: p NONE", x.sit(NONE, 0), UNKNOWN);
        C.same("sit: p 2", x.sit(2, 0), UNKNOWN);
        C.same("sit: b 2", x.sit(0, 2), UNKNOWN);
    }

    // One minute without frost: what the stone has and the person has then.
    private static void flow(String kind, int warmth, int heat, int heatDue, int warmthDue) {
        WarmStones x = Check.told("frost 0 0;stone 9999 2 " + heat + ";person " + kind + " " + warmth + " 0;");
        x.sit(0, 0);
        x.go(1);
        C.same(kind + " " + warmth + " on " + heat + ": heat", x.stone(0, 2), heatDue);
        C.same(kind + " " + warmth + " on " + heat + ": warmth", x.person(0, 2), warmthDue);
        C.same(kind + ": nothing lost", x.told(4), 0);
    }

    private static void flowByKinds() {
        flow("plain", 100, 20, 30, 90);
        flow("plain", 107, 100, 100, 107);
        flow("plain", 20, 100, 90, 30);
        flow("plain", 93, 100, 100, 93);
        flow("plain", 92, 100, 99, 93);
        flow("fat", 100, 20, 40, 80);
        flow("fat", 20, 100, 80, 40);
        flow("fat", 97, 100, 100, 97);
        flow("miser", 100, 20, 20, 100);
        flow("miser", 20, 100, 90, 30);
        flow("drain", 100, 20, 60, 60);
        flow("drain", 101, 20, 60, 61);
        flow("drain", 20, 100, 100, 20);
        flow("beggar", 100, 20, 30, 90);
        flow("beggar", 20, 100, 90, 30);
        flow("plain", 0, 9999, 8750, 1249);
        flow("drain", 9999, 0, 4999, 5000);
    }

    private static void flowIsCappedBySize() {
        WarmStones x = Check.told("frost 0 0;stone 25 2 20;person plain 100 0;");
        x.sit(0, 0);
        x.go(1);
        C.same("capped: heat", x.stone(0, 2), 25);
        C.same("capped: warmth", x.person(0, 2), 95);
        x.go(1);
        C.same("full: heat", x.stone(0, 2), 25);
        C.same("full: warmth", x.person(0, 2), 95);
        WarmStones y = Check.told("frost 0 0;stone 100 2 100;person plain 20 0;");
        y.sit(0, 0);
        y.go(1);
        C.same("a full stone still gives", y.stone(0, 2), 90);
    }

    private static void frost() {
        WarmStones x = Check.told("frost 9 4;stone 500 2 100;stone 500 2 100;person plain 100 0;person plain 100 0;"
            + "person beggar 100 0;person beggar 100 0;");
        x.sit(0, 0);
        x.sit(2, 1);
        x.go(1);
        C.same("sits", x.person(0, 2), 96);
        C.same("stands", x.person(1, 2), 91);
        C.same("a beggar sits", x.person(2, 2), 96);
        C.same("a beggar stands", x.person(3, 2), 96);
        C.same("lost", x.told(4), 4 + 9 + 4 + 4);
        WarmStones y = Check.told("person fat 10 0;person beggar 10 0;");
        y.go(1);
        C.same("untold frost: stands", y.person(0, 2), 7);
        C.same("untold frost: a beggar", y.person(1, 2), 9);
    }

    private static void frostTakesWhatThereIs() {
        WarmStones x = Check.told("frost 9 9;person plain 5 0;person plain 0 0;");
        x.go(1);
        C.same("no more than there is", x.person(0, 2), 0);
        C.same("lost what there was", x.told(4), 5);
        x.go(5);
        C.same("nothing more", x.told(4), 5);
    }

    private static void emptyStonesCool() {
        WarmStones x = Check.told("stone 999 10 109;stone 999 10 9;stone 999 10 0;stone 999 2 3;stone 999 999 998;");
        x.go(1);
        C.same("a tenth, cut", x.stone(0, 2), 99);
        C.same("one at least", x.stone(1, 2), 8);
        C.same("none has none", x.stone(2, 2), 0);
        C.same("half, cut", x.stone(3, 2), 2);
        C.same("one at least of 998", x.stone(4, 2), 997);
        C.same("lost", x.told(4), 10 + 1 + 0 + 1 + 1);
        x.go(2);
        C.same("down to none", x.stone(3, 2), 0);
        x.go(1);
        C.same("and no further", x.stone(3, 2), 0);
    }

    private static void personsComeAheadOfStones() {
        WarmStones x = Check.told("frost 0 0;stone 999 10 100;person plain 180 0;");
        x.sit(0, 0);
        x.go(1);
        C.same("a stone that is sat on does not cool", x.stone(0, 2), 110);
        x.sit(0, NONE);
        x.go(1);
        C.same("it cools from what it has", x.stone(0, 2), 99);
        C.same("the minute", x.told(3), 2);
    }

    private static void coldMinutes() {
        WarmStones x = Check.told("person plain 10 7;person plain 10 8;person plain 10 0;person fat 99 99;");
        C.same("COLD is looked at behind the frost", x.go(1), 0b1010);
        C.same("cold 0", x.person(0, 4), 0);
        C.same("cold 1", x.person(1, 4), 1);
        C.same("the set behind the last minute", x.go(1), 0b1011);
        C.same("cold 0", x.person(0, 4), 1);
        C.same("cold 1", x.person(1, 4), 2);
        C.same("cold 2", x.person(2, 4), 0);
        C.same("cold of all", x.told(9), 5);
        WarmStones y = Check.told("frost 0 0;stone 999 9 999;person plain 10 50;");
        y.sit(0, 0);
        C.same("warm again within the minute", y.go(1), 0);
        C.same("no cold minute", y.person(0, 4), 0);
    }

    private static void fines() {
        WarmStones x = Check.told("fine 99;stone 9 9 9;person plain 10 7;person beggar 10 8;");
        x.sit(0, 0);
        x.go(3);
        C.same("who sits owes nothing", x.person(0, 6), 0);
        C.same("who stands owes", x.person(1, 6), 297);
        x.sit(0, NONE);
        x.go(1);
        C.same("who stood up owes", x.person(0, 6), 99);
        WarmStones y = Check.told("person plain 10 7;");
        y.go(9);
        C.same("untold fine", y.person(0, 6), 0);
    }

    private static void usedAndStolen() {
        WarmStones x = Check.told("stone 9 9 9;stone 9 9 9;person plain 10 7;person plain 10 7;");
        x.own(0, 0, 2);
        x.own(0, 1, 5);
        x.own(1, 0, 5);
        x.sit(0, 0);
        x.go(2);
        C.same("used", x.owned(0, 0), 0);
        C.same("not stolen", x.person(0, 5), 0);
        x.go(3);
        C.same("stolen", x.person(0, 5), 3);
        C.same("none used", x.owned(0, 0), 0);
        C.same("of another stone: as they were", x.owned(0, 1), 5);
        C.same("of one that stands: as they were", x.owned(1, 0), 5);
        C.same("one that stands steals nothing", x.person(1, 5), 0);
    }

    private static void nothingIsLostButToFrost() {
        WarmStones x = Check.told("frost 6 2;stone 500 20 300;stone 200 10 0;stone 900 50 900;person plain 400 100;"
            + "person fat 900 0;person miser 200 150;person drain 300 120;person beggar 77 1;");
        long all = x.told(10);
        x.seed(123);
        for (int k = 0; k < 60; k++) {
            x.drift(3);
            C.same("what there is and what is lost", x.told(10) + x.told(4), all);
        }
    }

    private static void fullTown() {
        WarmStones x = Check.told("frost 9 1;" + "stone 90 2 90;".repeat(9) + "person fat 90 90;".repeat(8));
        for (int p = 0; p < 8; p++) {
            C.same("full town: sit", x.sit(p, 8 - p), NONE);
            x.own(p, 8 - p, p + 1);
        }
        C.same("full town: go", x.go(1), 255);
        for (int p = 0; p < 8; p++) {
            C.same("full town: warmth", x.person(p, 2), 89);
            C.same("full town: owned", x.owned(p, 8 - p), p);
            C.same("full town: heat", x.stone(8 - p, 2), 90);
        }
        C.same("full town: the empty stone", x.stone(0, 2), 45);
        C.same("full town: lost", x.told(4), 8 + 45);
        C.same("full town: cold", x.told(9), 8);
        C.same("full town: all", x.told(10), 17 * 90 - 8 - 45);
        C.same("full town: drift", x.drift(1) & ~255, 0);
    }

    private static void goBounds() {
        WarmStones x = Check.told("stone 9 9 9;person plain 10 7;");
        String before = Check.seen(x);
        for (int n : new int[] {0, -1, 1000, Integer.MIN_VALUE, Integer.MAX_VALUE}) {
            C.same("go " + n, x.go(n), OUTSIDE);
            C.same("drift " + n, x.drift(n), OUTSIDE);
        }
        C.same("go refused", Check.seen(x), before);
        C.same("go 999", x.go(999), 1);
        C.same("its minutes", x.told(3), 999);
    }

    /*
     * From seed 0: 12345 (draw of 4: 0), 1406932606 (21468: of 2: 0), 654583775 (9988: of 4: 0), 1449466924 (22117: of 2: 1),
     * 229283573 (3498: of 4: 2), 1109335178 (16927: of 4: 3), 1051550459 (16045: of 4: 1), 1293799192 (19741: of 4: 1),
     * 794471793 (12122: of 4: 2), 551188310 (8410: of 4: 2).
     */
    private static void driftByHand() {
        WarmStones x = Check.told("stone 9 9 9;person plain 10 7;person plain 10 7;");
        x.sit(1, 0);
        C.same("drift 1", x.drift(1), 0);
        C.same("it went where another sat: it stands", x.person(0, 3), NONE);
        C.same("it went to no stone: it stands", x.person(1, 3), NONE);
        C.same("four draws", x.seed(0), 1449466924);
        C.same("person 0 stood", x.person(0, 2), 7);
        WarmStones y = Check.told("stone 9 9 9;person plain 10 7;person plain 10 7;");
        C.same("drift 1", y.drift(1), 0);
        C.same("it went to the stone", y.person(0, 3), 0);
        C.same("it stole that minute", y.person(0, 5), 1);
        C.same("it sat", y.person(0, 2), 9);
        y.drift(1);
        C.same("two draws, nobody moves", y.seed(0), 1109335178);
        C.same("it sits still", y.person(0, 3), 0);
        C.same("minutes", y.told(3), 2);
        WarmStones z = Check.told("stone 9 9 9;person plain 10 7;");
        z.sit(0, 0);
        z.drift(1);
        C.same("it goes back to its own", z.person(0, 3), 0);
        C.same("the seed", z.seed(0), 1406932606);
        WarmStones five = Check.told("stone 9 9 9;stone 9 9 9;stone 9 9 9;stone 9 9 9;person plain 10 7;");
        five.drift(1);
        C.same("four stones: a draw of five", five.person(0, 3), 3);
        WarmStones w = Check.told("person plain 10 7;");
        w.drift(1);
        C.same("no stones: a draw of one all the same", w.seed(0), 1406932606);
        C.same("no stones: it stands", w.person(0, 3), NONE);
    }

    private static void driftBounds() {
        WarmStones x = Check.told("stone 9 9 9;person plain 10 7;");
        C.same("drift 999", x.drift(999), 1);
        C.same("its minutes", x.told(3), 999);
        x.seed(2147483647);
        x.drift(1);
        C.holds("the seed stays within 31 bits", x.seed(0) >= 0);
    }

    private static void own() {
        WarmStones x = Check.told("stone 9 9 9;stone 9 9 9;person plain 10 7;person plain 10 7;");
        C.same("own", x.own(1, 0, 1), 1);
        C.same("own more", x.own(1, 0, 9999), 10000);
        for (int k = 0; k < 9; k++) {
            x.own(1, 0, 9999);
        }
        C.same("own: no more than 99999", x.own(1, 0, 9), 99999);
        C.same("owned", x.owned(1, 0), 99999);
        C.same("own: the others'", x.owned(0, 0) + x.owned(1, 1) + x.owned(0, 1), 0);
        for (int n : new int[] {0, -1, 10000, Integer.MIN_VALUE, Integer.MAX_VALUE}) {
            C.same("own n " + n, x.own(0, 0, n), OUTSIDE);
            C.same("own UNKNOWN ahead of OUTSIDE", x.own(2, 0, n), UNKNOWN);
            C.same("own UNKNOWN ahead of OUTSIDE", x.own(0, 2, n), UNKNOWN);
        }
        for (int bad : new int[] {-1, 2, Integer.MIN_VALUE, Integer.MAX_VALUE}) {
            C.same("own p " + bad, x.own(bad, 0, 1), UNKNOWN);
            C.same("own b " + bad, x.own(0, bad, 1), UNKNOWN);
        }
        C.same("own refused", x.owned(0, 0), 0);
    }

    private static void trade() {
        WarmStones x = Check.told("stone 9 9 9;stone 9 9 9;person plain 10 7;person plain 10 7;");
        x.own(0, 1, 10);
        C.same("trade", x.trade(0, 1, 1, 4), 6);
        C.same("trade: q has them", x.owned(1, 1), 4);
        C.same("trade: not of another stone", x.trade(0, 1, 0, 1), NOT);
        C.same("trade: not so many", x.trade(0, 1, 1, 7), NOT);
        C.same("trade all", x.trade(0, 1, 1, 6), 0);
        for (int n : new int[] {0, -1, 10000, Integer.MIN_VALUE, Integer.MAX_VALUE}) {
            C.same("trade n " + n, x.trade(1, 0, 1, n), OUTSIDE);
            C.same("trade UNKNOWN ahead of OUTSIDE", x.trade(1, 1, 1, n), UNKNOWN);
        }
        for (int bad : new int[] {-1, 2, Integer.MIN_VALUE, Integer.MAX_VALUE}) {
            C.same("trade p " + bad, x.trade(bad, 0, 1, 1), UNKNOWN);
            C.same("trade q " + bad, x.trade(1, bad, 1, 1), UNKNOWN);
            C.same("trade b " + bad, x.trade(1, 0, bad, 1), UNKNOWN);
        }
        C.same("trade with itself", x.trade(1, 1, 1, 1), UNKNOWN);
        C.same("trade refused", x.owned(1, 1), 10);
        for (int k = 0; k < 11; k++) {
            x.own(0, 1, 9999);
        }
        C.same("trade: NOT ahead of FULL", x.trade(1, 0, 1, 11), NOT);
        C.same("trade: q has most already", x.trade(1, 0, 1, 1), FULL);
        C.same("trade refused: p", x.owned(1, 1), 10);
        C.same("trade refused: q", x.owned(0, 1), 99999);
        C.same("trade the other way", x.trade(0, 1, 1, 5), 99994);
        C.same("trade: one too many", x.trade(1, 0, 1, 6), FULL);
        C.same("trade: just as many", x.trade(1, 0, 1, 5), 10);
        C.same("trade: q", x.owned(0, 1), 99999);
    }

    private static void forgive() {
        WarmStones x = Check.told("fine 4;stone 9 9 9;person plain 10 7;person plain 10 7;");
        x.go(2);
        x.sit(0, 0);
        x.go(3);
        C.same("owes", x.person(0, 6), 8);
        C.same("stole", x.person(0, 5), 3);
        C.same("forgive", x.forgive(0), 8);
        C.same("owes nothing", x.person(0, 6), 0);
        C.same("stole nothing", x.person(0, 5), 0);
        C.same("the other owes", x.person(1, 6), 20);
        C.same("forgive again", x.forgive(0), 0);
        C.same("cold minutes stay", x.forgive(1) * 100 + x.person(1, 4), 2004);
        for (int bad : new int[] {-1, 2, Integer.MIN_VALUE, Integer.MAX_VALUE}) {
            C.same("forgive " + bad, x.forgive(bad), UNKNOWN);
        }
    }
}
