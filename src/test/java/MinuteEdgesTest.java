/** Section 2 and promises 9 to 14: each sentence that names a boundary has a test of its own here. */
final class MinuteEdgesTest {
    private static final Check C = new Check("MinuteEdgesTest");
    private static final int NONE = WarmStones.NONE, UNKNOWN = WarmStones.UNKNOWN, OUTSIDE = WarmStones.OUTSIDE;
    private static final int NOT = WarmStones.NOT, FULL = WarmStones.FULL;
    private static final int[] FAR = {Integer.MIN_VALUE, Integer.MIN_VALUE + 1, UNKNOWN, -100, Integer.MAX_VALUE - 1, Integer.MAX_VALUE};
    private static final String TWO = "stone 9 9 9;stone 9 9 9;person plain 10 7;person plain 10 7;";

    public static void main(String[] args) {
        allStandAtFirst();
        oneOnEachAtMost();
        flowOfPlain();
        flowOfFat();
        flowOfMiser();
        flowOfDrain();
        flowOfBeggar();
        flowIsAtMostSizeLessHeat();
        flowComesAheadOfTheFrost();
        frostByPlace();
        frostOfABeggar();
        frostTakesNoMoreThanThereIs();
        whoStandsOwes();
        coldIsBelowNeed();
        coldBehindTheFrost();
        emptyStoneLosesAPart();
        stoneWithASitterLosesNothing();
        minuteIsOneMore();
        usesOneOrSteals();
        sitUnknown();
        sitNot();
        sitTellsWhereItWas();
        goBounds();
        goTellsWhoIsCold();
        driftBounds();
        driftTellsWhoIsCold();
        manyAreLikeOneByOne();
        ownBounds();
        ownAtMost99999();
        ownUnknown();
        tradeBounds();
        tradeNot();
        tradeFull();
        tradeUnknown();
        forgiveAll();
        forgiveUnknown();
        C.end();
    }

    // "A PERSON stands (at first)"
    private static void allStandAtFirst() {
        WarmStones x = Check.told("stone 1 2 0;".repeat(9) + "person fat 1 1;".repeat(8));
        for (int p = 0; p < 8; p++) {
            C.same("person " + p + " stands", x.person(p, 3), NONE);
        }
        for (int b = 0; b < 9; b++) {
            C.same("nobody on " + b, x.stone(b, 3), NONE);
        }
    }

    // "or sits on a STONE, one on each at most"
    private static void oneOnEachAtMost() {
        WarmStones x = Check.told("stone 1 2 0;".repeat(9) + "person fat 1 1;".repeat(8));
        for (int p = 0; p < 8; p++) {
            C.same(p + " sits", x.sit(p, p + 1), NONE);
            for (int b = 1; b <= p; b++) {
                C.same(p + " not on " + b, x.sit(p, b), NOT);
            }
        }
        for (int b = 0; b < 9; b++) {
            C.same("who sits on " + b, x.stone(b, 3), b - 1);
        }
        C.same("the one that is free", x.sit(7, 0), 8);
        C.same("free by that", x.sit(0, 8), 1);
    }

    // One minute without frost, on a stone with room: what goes over, by what the person has more than the stone.
    private static void flow(String kind, int more, int due) {
        int heat = 5000;
        WarmStones x = Check.told("frost 0 0;stone 9999 2 " + heat + ";person " + kind + " " + (heat + more) + " 0;");
        x.sit(0, 0);
        x.go(1);
        C.same(kind + " with " + more + " more: the stone", x.stone(0, 2), heat + due);
        C.same(kind + " with " + more + " more: the person", x.person(0, 2), heat + more - due);
        C.same(kind + " with " + more + " more: nothing LOST", x.told(4), 0);
    }

    private static void flows(String kind, int[][] pairs) {
        for (int[] pair : pairs) {
            flow(kind, pair[0], pair[1]);
        }
    }

    // "FLOW: (w less h) / R", "/ cuts towards 0", "plain 8"
    private static void flowOfPlain() {
        flows("plain", new int[][] {{-16, -2}, {-15, -1}, {-9, -1}, {-8, -1}, {-7, 0}, {-1, 0}, {0, 0}, {1, 0}, {7, 0}, {8, 1}, {9, 1},
            {15, 1}, {16, 2}, {4999, 624}, {-5000, -625}});
    }

    // "fat 4"
    private static void flowOfFat() {
        flows("fat", new int[][] {{-8, -2}, {-7, -1}, {-4, -1}, {-3, 0}, {0, 0}, {3, 0}, {4, 1}, {7, 1}, {8, 2}, {4999, 1249}, {-5000, -1250}});
    }

    // "miser 8", "a miser gives nothing (FLOW is 0 at the most)"
    private static void flowOfMiser() {
        flows("miser", new int[][] {{-16, -2}, {-15, -1}, {-8, -1}, {-7, 0}, {0, 0}, {7, 0}, {8, 0}, {16, 0}, {4999, 0}, {-5000, -625}});
    }

    // "drain 2", "takes nothing back (FLOW 0 at least)"
    private static void flowOfDrain() {
        flows("drain", new int[][] {{-5000, 0}, {-16, 0}, {-2, 0}, {-1, 0}, {0, 0}, {1, 0}, {2, 1}, {3, 1}, {4, 2}, {4999, 2499}});
    }

    // "beggar 8"
    private static void flowOfBeggar() {
        flows("beggar", new int[][] {{-16, -2}, {-15, -1}, {-8, -1}, {-7, 0}, {0, 0}, {7, 0}, {8, 1}, {15, 1}, {16, 2}, {4999, 624}, {-5000, -625}});
    }

    // One minute of a drain with 20 more than the stone: FLOW 10, if there is room.
    private static void capped(int room, int due) {
        WarmStones x = Check.told("frost 0 0;stone " + (50 + room) + " 2 50;person drain 70 0;");
        x.sit(0, 0);
        x.go(1);
        C.same("room of " + room + ": the stone", x.stone(0, 2), 50 + due);
        C.same("room of " + room + ": the person", x.person(0, 2), 70 - due);
    }

    // "FLOW is at most SIZE less h"
    private static void flowIsAtMostSizeLessHeat() {
        capped(0, 0);
        capped(1, 1);
        capped(9, 9);
        capped(10, 10);
        capped(11, 10);
        WarmStones x = Check.told("frost 0 0;stone 50 2 50;person plain 42 0;");
        x.sit(0, 0);
        x.go(1);
        C.same("a full stone gives", x.stone(0, 2), 49);
        C.same("and is taken from", x.person(0, 2), 43);
        WarmStones small = Check.told("frost 0 0;stone 1 2 0;person drain 9999 0;");
        small.sit(0, 0);
        small.go(1);
        C.same("the smallest stone is full", small.stone(0, 2), 1);
        C.same("by one", small.person(0, 2), 9998);
    }

    // "FLOW goes from the PERSON to the STONE .. Then the frost"
    private static void flowComesAheadOfTheFrost() {
        WarmStones gives = Check.told("frost 0 16;stone 99 2 0;person plain 16 0;");
        gives.sit(0, 0);
        gives.go(1);
        C.same("it gives ahead of the frost", gives.stone(0, 2), 2);
        C.same("the frost takes what is left", gives.told(4), 14);
        WarmStones takes = Check.told("frost 0 9;stone 99 2 80;person plain 0 0;");
        takes.sit(0, 0);
        takes.go(1);
        C.same("it takes ahead of the frost", takes.stone(0, 2), 70);
        C.same("the frost takes of that", takes.person(0, 2), 1);
        C.same("as much as it may", takes.told(4), 9);
    }

    // "B if it sits, A if it stands"
    private static void frostByPlace() {
        for (String kind : new String[] {"plain", "fat", "miser", "drain"}) {
            WarmStones x = Check.told("frost 99 98;stone 500 2 500;person " + kind + " 500 0;person " + kind + " 500 0;");
            x.sit(0, 0);
            x.go(1);
            C.same(kind + " sits", x.person(0, 2), 402);
            C.same(kind + " stands", x.person(1, 2), 401);
            C.same(kind + ": LOST", x.told(4), 98 + 99);
        }
    }

    // "a beggar A / 2 (cut) at any rate"
    private static void frostOfABeggar() {
        int[][] pairs = {{0, 0}, {1, 0}, {2, 1}, {3, 1}, {98, 49}, {99, 49}};
        for (int[] pair : pairs) {
            for (int b : new int[] {0, 99}) {
                WarmStones x = Check.told("frost " + pair[0] + " " + b + ";stone 500 2 500;person beggar 500 0;person beggar 500 0;");
                x.sit(0, 0);
                x.go(1);
                C.same("A " + pair[0] + " B " + b + ": sits", x.person(0, 2), 500 - pair[1]);
                C.same("A " + pair[0] + " B " + b + ": stands", x.person(1, 2), 500 - pair[1]);
            }
        }
    }

    // "of WARMTH as much as there is: it is LOST"
    private static void frostTakesNoMoreThanThereIs() {
        int[][] pairs = {{0, 0}, {1, 1}, {4, 4}, {5, 5}, {6, 5}};
        for (int[] pair : pairs) {
            WarmStones x = Check.told("frost 5 0;person plain " + pair[0] + " 0;");
            x.go(1);
            C.same("of " + pair[0] + " is LOST", x.told(4), pair[1]);
            C.same("of " + pair[0] + " is left", x.person(0, 2), pair[0] - pair[1]);
        }
    }

    // "Who stands owes C more."
    private static void whoStandsOwes() {
        for (int c : new int[] {0, 1, 99}) {
            WarmStones x = Check.told("fine " + c + ";stone 9 9 9;person plain 10 7;person beggar 0 0;");
            C.same("nothing at first", x.person(0, 6) + x.person(1, 6), 0);
            x.sit(0, 0);
            x.go(1);
            C.same("who sits owes nothing", x.person(0, 6), 0);
            C.same("who stands owes", x.person(1, 6), c);
            x.sit(0, NONE);
            x.go(2);
            C.same("since it stands", x.person(0, 6), 2 * c);
            C.same("all the time", x.person(1, 6), 3 * c);
        }
    }

    // "COLD: WARMTH below NEED"
    private static void coldIsBelowNeed() {
        WarmStones x = Check.told("frost 0 0;person fat 5 4;person fat 5 5;person fat 5 6;person fat 0 0;person fat 0 1;"
            + "person fat 9999 9999;person fat 9998 9999;");
        C.same("below, not like", x.go(1), 0b1010100);
        int[] due = {0, 0, 1, 0, 1, 0, 1};
        for (int p = 0; p < due.length; p++) {
            C.same("COLD minutes of " + p, x.person(p, 4), due[p]);
        }
        C.same("COLD minutes of all", x.told(9), 3);
    }

    // "behind that: its COLD minutes are one more"
    private static void coldBehindTheFrost() {
        WarmStones x = Check.told("frost 3 0;person fat 10 7;");
        C.same("10 less 3 is not below 7", x.go(1), 0);
        C.same("7 less 3 is", x.go(1), 1);
        C.same("one COLD minute", x.person(0, 4), 1);
        x.go(10);
        C.same("one for each", x.person(0, 4), 11);
        WarmStones flow = Check.told("frost 0 0;stone 99 2 0;person drain 10 6;");
        flow.sit(0, 0);
        C.same("behind the FLOW, too", flow.go(1), 1);
        WarmStones warmed = Check.told("frost 0 1;stone 99 2 90;person plain 10 19;");
        warmed.sit(0, 0);
        C.same("warmed to 20, less 1", warmed.go(1), 0);
    }

    private static void cools(int k, int heat, int due) {
        WarmStones x = Check.told("stone 9999 " + k + " " + heat + ";");
        x.go(1);
        C.same("of " + heat + " by " + k, x.stone(0, 2), heat - due);
        C.same("of " + heat + " by " + k + " LOST", x.told(4), due);
    }

    // "one on which nobody sits loses HEAT / K (cut; 1 at least, if it has any)"
    private static void emptyStoneLosesAPart() {
        cools(10, 0, 0);
        cools(10, 1, 1);
        cools(10, 9, 1);
        cools(10, 10, 1);
        cools(10, 19, 1);
        cools(10, 20, 2);
        cools(10, 29, 2);
        cools(2, 1, 1);
        cools(2, 2, 1);
        cools(2, 3, 1);
        cools(2, 4, 2);
        cools(2, 9999, 4999);
        cools(999, 998, 1);
        cools(999, 1997, 1);
        cools(999, 1998, 2);
        cools(999, 9999, 10);
    }

    private static void stoneWithASitterLosesNothing() {
        WarmStones x = Check.told("frost 0 0;" + "stone 9 2 8;".repeat(9) + "person drain 0 0;".repeat(2));
        x.sit(0, 0);
        x.sit(1, 8);
        x.go(1);
        for (int b = 0; b < 9; b++) {
            C.same("stone " + b, x.stone(b, 2), b == 0 || b == 8 ? 8 : 4);
        }
        x.sit(1, NONE);
        x.go(1);
        C.same("left, it loses", x.stone(8, 2), 4);
        C.same("sat on, it does not", x.stone(0, 2), 8);
    }

    // "THE MINUTE is 0 at first, one more behind it"
    private static void minuteIsOneMore() {
        WarmStones x = Check.told(TWO);
        C.same("0 at first", x.told(3), 0);
        x.go(1);
        C.same("one more", x.told(3), 1);
        x.drift(1);
        C.same("one more by draws", x.told(3), 2);
        x.go(999);
        C.same("999 more", x.told(3), 1001);
    }

    // "one that sits in a minute uses one; without one it STOLE that minute"
    private static void usesOneOrSteals() {
        WarmStones x = Check.told(TWO);
        x.own(0, 0, 2);
        x.own(1, 0, 7);
        x.own(0, 1, 8);
        x.sit(0, 0);
        int[][] due = {{1, 0}, {0, 0}, {0, 1}, {0, 2}};
        for (int[] one : due) {
            x.go(1);
            C.same("owns", x.owned(0, 0), one[0]);
            C.same("STOLE", x.person(0, 5), one[1]);
        }
        C.same("another's are as they were", x.owned(1, 0), 7);
        C.same("another STONE's are as they were", x.owned(0, 1), 8);
        C.same("who stands STOLE nothing", x.person(1, 5), 0);
        x.own(0, 0, 1);
        x.go(2);
        C.same("one used, one STOLEN", x.person(0, 5), 3);
    }

    // sit: "UNKNOWN"
    private static void sitUnknown() {
        WarmStones x = Check.told("stone 1 2 0;".repeat(9) + "person fat 1 1;".repeat(8));
        C.same("the last on the last", x.sit(7, 8), NONE);
        C.same("a ninth PERSON", x.sit(8, 0), UNKNOWN);
        C.same("ahead of the first PERSON", x.sit(-1, 0), UNKNOWN);
        C.same("a tenth STONE", x.sit(0, 9), UNKNOWN);
        C.same("below NONE", x.sit(0, -2), UNKNOWN);
        C.same("a ninth PERSON cannot stand", x.sit(8, NONE), UNKNOWN);
        C.same("UNKNOWN ahead of NOT", x.sit(8, 8), UNKNOWN);
        for (int far : FAR) {
            C.same("person " + far, x.sit(far, 0), UNKNOWN);
            C.same("stone " + far, x.sit(0, far), UNKNOWN);
        }
        C.same("still there", x.stone(8, 3), 7);
    }

    // "NOT: another one sits there"
    private static void sitNot() {
        WarmStones x = Check.told(TWO);
        x.sit(0, 0);
        C.same("another one sits there", x.sit(1, 0), NOT);
        C.same("it still stands", x.person(1, 3), NONE);
        x.sit(1, 1);
        C.same("another one sits there", x.sit(1, 0), NOT);
        C.same("it still sits", x.person(1, 3), 1);
        C.same("itself is no other", x.sit(0, 0), 0);
        x.sit(0, NONE);
        C.same("nobody any more", x.sit(1, 0), 1);
    }

    // "(NONE: it stands): where it was"
    private static void sitTellsWhereItWas() {
        WarmStones x = Check.told(TWO);
        C.same("it stood, and stands", x.sit(0, NONE), NONE);
        C.same("it stood", x.sit(0, 1), NONE);
        C.same("it sat on 1", x.sit(0, 0), 1);
        C.same("it sat on 0", x.sit(0, NONE), 0);
        C.same("it stood", x.sit(0, NONE), NONE);
        C.same("two stand side by side", x.sit(1, NONE), NONE);
    }

    // "n MINUTES (1 .. 999) .. OUTSIDE"
    private static void goBounds() {
        WarmStones x = Check.told(TWO);
        String before = Check.seen(x);
        for (int n : new int[] {-999, -1, 0, 1000, 1001}) {
            C.same("go " + n, x.go(n), OUTSIDE);
        }
        for (int far : FAR) {
            C.same("go " + far, x.go(far), OUTSIDE);
        }
        C.same("nothing changes", Check.seen(x), before);
        C.same("go 1", x.go(1), 0);
        C.same("a minute", x.told(3), 1);
        C.same("go 999", x.go(999), 3);
        C.same("999 more", x.told(3), 1000);
    }

    // "PERSONS that are COLD behind them (a SET)": behind the last, not on the way.
    private static void goTellsWhoIsCold() {
        String town = "frost 0 0;stone 999 2 999;person plain 0 200;person fat 0 9;" + "person fat 9 9;".repeat(5) + "person fat 8 9;";
        WarmStones x = Check.told(town);
        x.sit(0, 0);
        C.same("behind one", x.go(1), 0b10000011);
        C.same("behind two more: the first is warm", x.go(2), 0b10000010);
        C.same("its COLD minutes", x.person(0, 4), 1);
        x = Check.told(town);
        x.sit(0, 0);
        C.same("behind three at once: the first was COLD on the way only", x.go(3), 0b10000010);
        C.same("its COLD minutes", x.person(0, 4), 1);
        C.same("nobody", Check.told("stone 9 9 9;").go(1), 0);
    }

    // drift: "n MINUTES (1 .. 999) BY DRAWS: likewise. OUTSIDE."
    private static void driftBounds() {
        WarmStones x = Check.told(TWO);
        String before = Check.seen(x);
        for (int n : new int[] {-999, -1, 0, 1000, 1001}) {
            C.same("drift " + n, x.drift(n), OUTSIDE);
        }
        for (int far : FAR) {
            C.same("drift " + far, x.drift(far), OUTSIDE);
        }
        C.same("nothing changes, nothing is drawn", Check.seen(x), before);
        C.same("drift 1", x.drift(1), 0);
        C.same("a minute", x.told(3), 1);
        C.same("drift 999", x.drift(999), 3);
        C.same("999 more", x.told(3), 1000);
    }

    // drift: "likewise": behind the last, not on the way. By seed 4 nobody gets up in the first four draws.
    private static void driftTellsWhoIsCold() {
        WarmStones x = Check.told("frost 0 0;stone 999 2 999;person plain 0 200;person fat 0 9;");
        x.sit(0, 0);
        x.seed(4);
        x.keep(0);
        C.same("behind one", x.drift(1), 0b11);
        x.goBack(0);
        C.same("behind two at once: the first was COLD on the way only", x.drift(2), 0b10);
        C.same("it sits as it sat", x.person(0, 3), 0);
        C.same("its COLD minutes", x.person(0, 4), 1);
        C.same("nobody", Check.told("stone 9 9 9;").drift(1), 0);
    }

    // "n MINUTES", "n MINUTES BY DRAWS": n at once are like one by one, the draws ahead of each too.
    private static void manyAreLikeOneByOne() {
        String town = "frost 4 1;fine 3;stone 90 9 60;stone 500 20 0;person plain 300 200;person fat 80 60;person drain 200 9;";
        for (int n = 2; n <= 100; n += 7) {
            WarmStones atOnce = Check.told(town);
            WarmStones oneByOne = Check.told(town);
            atOnce.sit(2, 0);
            oneByOne.sit(2, 0);
            int went = 0;
            int drifted = 0;
            for (int k = 0; k < n; k++) {
                went = oneByOne.go(1);
            }
            C.same("go " + n, atOnce.go(n), went);
            C.same("behind go " + n, Check.seen(atOnce), Check.seen(oneByOne));
            for (int k = 0; k < n; k++) {
                drifted = oneByOne.drift(1);
            }
            C.same("drift " + n, atOnce.drift(n), drifted);
            C.same("behind drift " + n, Check.seen(atOnce), Check.seen(oneByOne));
        }
    }

    // "n minutes more (1 .. 9999)"
    private static void ownBounds() {
        WarmStones x = Check.told(TWO);
        C.same("own 0", x.own(0, 0, 0), OUTSIDE);
        C.same("own -1", x.own(0, 0, -1), OUTSIDE);
        C.same("own 1", x.own(0, 0, 1), 1);
        C.same("own 9999", x.own(0, 0, 9999), 10000);
        C.same("own 10000", x.own(0, 0, 10000), OUTSIDE);
        for (int far : FAR) {
            C.same("own " + far, x.own(0, 0, far), OUTSIDE);
        }
        C.same("as it was", x.owned(0, 0), 10000);
    }

    private static WarmStones owning(int p, int b, int minutes) {
        WarmStones x = Check.told(TWO);
        own(x, p, b, minutes);
        return x;
    }

    private static void own(WarmStones x, int p, int b, int minutes) {
        for (int left = minutes; left > 0; left -= 9999) {
            x.own(p, b, Math.min(left, 9999));
        }
    }

    // "how many then (99999 at most)"
    private static void ownAtMost99999() {
        C.same("99998", owning(0, 0, 99997).own(0, 0, 1), 99998);
        C.same("99999", owning(0, 0, 99998).own(0, 0, 1), 99999);
        C.same("no more", owning(0, 0, 99999).own(0, 0, 1), 99999);
        C.same("9999 more, just", owning(0, 0, 90000).own(0, 0, 9999), 99999);
        C.same("9999 more, cut", owning(0, 0, 90001).own(0, 0, 9999), 99999);
        WarmStones x = owning(0, 0, 99999);
        x.own(0, 0, 9999);
        C.same("kept so", x.owned(0, 0), 99999);
        C.same("OUTSIDE all the same", x.own(0, 0, 10000), OUTSIDE);
        x.sit(0, 0);
        x.go(1);
        C.same("one used", x.owned(0, 0), 99998);
        C.same("nothing STOLEN", x.person(0, 5), 0);
    }

    private static void ownUnknown() {
        WarmStones x = Check.told(TWO);
        for (int no : new int[] {-2, -1, 2, 3}) {
            C.same("by " + no, x.own(no, 0, 1), UNKNOWN);
            C.same("of " + no, x.own(0, no, 1), UNKNOWN);
            C.same("UNKNOWN ahead of OUTSIDE", x.own(no, 0, 0), UNKNOWN);
            C.same("UNKNOWN ahead of OUTSIDE", x.own(0, no, 10000), UNKNOWN);
        }
        for (int far : FAR) {
            C.same("by " + far, x.own(far, 0, 1), UNKNOWN);
            C.same("of " + far, x.own(0, far, 1), UNKNOWN);
        }
        C.same("nothing owned", x.owned(0, 0) + x.owned(0, 1) + x.owned(1, 0) + x.owned(1, 1), 0);
    }

    // "n of its minutes (1 .. 9999)"
    private static void tradeBounds() {
        WarmStones x = owning(0, 1, 20000);
        C.same("trade 0", x.trade(0, 1, 1, 0), OUTSIDE);
        C.same("trade -1", x.trade(0, 1, 1, -1), OUTSIDE);
        C.same("trade 10000", x.trade(0, 1, 1, 10000), OUTSIDE);
        C.same("OUTSIDE ahead of NOT", x.trade(1, 0, 1, 10000), OUTSIDE);
        for (int far : FAR) {
            C.same("trade " + far, x.trade(0, 1, 1, far), OUTSIDE);
        }
        C.same("as it was", x.owned(0, 1) * 10 + x.owned(1, 1), 200000);
        C.same("trade 1", x.trade(0, 1, 1, 1), 19999);
        C.same("trade 9999", x.trade(0, 1, 1, 9999), 10000);
        C.same("q has them", x.owned(1, 1), 10000);
        C.same("of that STONE only", x.owned(0, 0) + x.owned(1, 0), 0);
    }

    // "NOT: so many it has not"
    private static void tradeNot() {
        WarmStones x = owning(0, 1, 5);
        C.same("one too many", x.trade(0, 1, 1, 6), NOT);
        C.same("of another STONE", x.trade(0, 1, 0, 1), NOT);
        C.same("of another PERSON", x.trade(1, 0, 1, 1), NOT);
        C.same("as it was", x.owned(0, 1) * 10 + x.owned(1, 1), 50);
        C.same("just so many", x.trade(0, 1, 1, 5), 0);
        C.same("q has them", x.owned(1, 1), 5);
        C.same("none left", x.trade(0, 1, 1, 1), NOT);
        C.same("p has now what q had", x.trade(1, 0, 1, 5), 0);
    }

    // "FULL: q would have more than 99999"
    private static void tradeFull() {
        WarmStones x = owning(0, 0, 99995);
        own(x, 1, 0, 5);
        C.same("one too many", x.trade(1, 0, 0, 5), FULL);
        C.same("as it was", x.owned(0, 0) * 10L + x.owned(1, 0), 999955);
        C.same("just so many", x.trade(1, 0, 0, 4), 1);
        C.same("q has 99999", x.owned(0, 0), 99999);
        C.same("not one more", x.trade(1, 0, 0, 1), FULL);
        C.same("NOT ahead of FULL", x.trade(1, 0, 0, 2), NOT);
        C.same("OUTSIDE ahead of FULL", x.trade(1, 0, 0, 0), OUTSIDE);
        C.same("UNKNOWN ahead of FULL", x.trade(1, 0, 2, 1), UNKNOWN);
        C.same("the other way", x.trade(0, 1, 0, 9999), 90000);
        C.same("p has 10000", x.owned(1, 0), 10000);
        C.same("and gives them back", x.trade(1, 0, 0, 9999), 1);
    }

    // "UNKNOWN (p like q)"
    private static void tradeUnknown() {
        WarmStones x = owning(0, 0, 5);
        C.same("p like q", x.trade(0, 0, 0, 1), UNKNOWN);
        C.same("p like q, ahead of OUTSIDE", x.trade(0, 0, 0, 0), UNKNOWN);
        C.same("p like q, ahead of NOT", x.trade(1, 1, 0, 1), UNKNOWN);
        for (int no : new int[] {-2, -1, 2, 3}) {
            C.same("p " + no, x.trade(no, 0, 0, 1), UNKNOWN);
            C.same("q " + no, x.trade(0, no, 0, 1), UNKNOWN);
            C.same("b " + no, x.trade(0, 1, no, 1), UNKNOWN);
            C.same("UNKNOWN ahead of OUTSIDE", x.trade(0, no, 0, 0), UNKNOWN);
            C.same("UNKNOWN ahead of NOT", x.trade(0, no, 0, 6), UNKNOWN);
        }
        for (int far : FAR) {
            C.same("p " + far, x.trade(far, 0, 0, 1), UNKNOWN);
            C.same("q " + far, x.trade(0, far, 0, 1), UNKNOWN);
            C.same("b " + far, x.trade(0, 1, far, 1), UNKNOWN);
        }
        C.same("as it was", x.owned(0, 0), 5);
    }

    // "A PERSON owes nothing, STOLE nothing: what it owed."
    private static void forgiveAll() {
        WarmStones x = Check.told("fine 4;frost 9 0;stone 9 9 9;person plain 0 7;person plain 0 7;");
        C.same("nothing owed yet", x.forgive(0), 0);
        x.go(2);
        x.sit(0, 0);
        x.own(0, 0, 4);
        x.go(5);
        C.same("owed", x.person(0, 6), 8);
        C.same("STOLEN", x.person(0, 5), 1);
        String before = Check.seen(x);
        C.same("what it owed", x.forgive(0), 8);
        C.same("just that", Check.seen(x), before.replace("person 0 7 0 0 7 1 8", "person 0 7 0 0 7 0 0"));
        C.holds("it was so", before.contains("person 0 7 0 0 7 1 8"));
        C.same("nothing any more", x.forgive(0), 0);
        C.same("the other owes still", x.forgive(1), 28);
    }

    private static void forgiveUnknown() {
        WarmStones x = Check.told("fine 4;" + "person plain 0 7;".repeat(8));
        x.go(1);
        C.same("the last", x.forgive(7), 4);
        C.same("a ninth", x.forgive(8), UNKNOWN);
        C.same("ahead of the first", x.forgive(-1), UNKNOWN);
        for (int far : FAR) {
            C.same("forgive " + far, x.forgive(far), UNKNOWN);
        }
        C.same("the first owes still", x.person(0, 6), 4);
    }
}
