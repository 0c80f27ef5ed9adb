/** Promises 1 to 8: a new object, feed, town, fault, told, stone, person, owned. */
final class TownTest {
    private static final Check C = new Check("TownTest");
    private static final int NONE = WarmStones.NONE, UNKNOWN = WarmStones.UNKNOWN, OUTSIDE = WarmStones.OUTSIDE;
    private static final int NOT = WarmStones.NOT, FULL = WarmStones.FULL;

    public static void main(String[] args) {
        newObject();
        feed();
        town();
        townStartsAnew();
        faultyTownLeavesAll();
        goodTexts();
        misplaced();
        outOfBounds();
        tooMany();
        aboveSize();
        firstFaultCounts();
        told();
        stone();
        person();
        owned();
        C.end();
    }

    private static void newObject() {
        WarmStones x = new WarmStones();
        long[] due = {0, 0, 0, 0, 0, 3, 1, 0, 0, 0, 0};
        for (int what = 0; what < due.length; what++) {
            C.same("new: told " + what, x.told(what), due[what]);
        }
        C.same("new: fault", x.fault(), NONE);
        C.same("new: stone", x.stone(0, 0), UNKNOWN);
        C.same("new: person", x.person(0, 0), UNKNOWN);
        C.same("new: owned", x.owned(0, 0), UNKNOWN);
        C.same("new: sit", x.sit(0, NONE), UNKNOWN);
        C.same("new: goBack", x.goBack(0), NOT);
        C.same("new: judge", x.judge(), NONE);
        C.same("new: tear", x.tear(), 0);
        C.same("new: safe", x.safe(), 999);
        C.same("new: seed", x.seed(0), 0);
        C.same("new: go", x.go(2), 0);
        C.same("new: minute", x.told(3), 2);
        C.same("new: drift", x.drift(2), 0);
        C.same("new: seating", x.seating(1, 0), NOT);
    }

    private static void feed() {
        WarmStones x = new WarmStones();
        for (int n : new int[] {0, -1, 9, 100, Integer.MIN_VALUE, Integer.MAX_VALUE}) {
            C.same("feed n " + n, x.feed(n, 0), OUTSIDE);
        }
        C.same("feed refused leaves the text", x.told(2), 0);
        C.same("feed 4", x.feed(4, 0x7878787866696e65L), 4);
        C.same("feed 3", x.feed(3, 0x203432L), 7);
        C.same("feed 1", x.feed(1, 0x3bL), 8);
        C.same("feed: bytes", x.told(2), 8);
        C.same("feed: the lowest bytes, highest first", x.town(), 0);
        C.same("feed: fine 42", x.told(7), 42);
        for (int k = 1; k <= 49; k++) {
            C.same("feed 8", x.feed(8, 0x2020202020202020L), 8 * k);
        }
        C.same("feed 7", x.feed(7, 0x20202020202020L), 399);
        C.same("feed beyond 400", x.feed(2, 0x2020L), FULL);
        C.same("feed refused", x.told(2), 399);
        C.same("feed to 400", x.feed(1, 0x20L), 400);
        C.same("feed full", x.feed(1, 0x20L), FULL);
        C.same("feed OUTSIDE ahead of FULL", x.feed(9, 0x20L), OUTSIDE);
        C.same("feed OUTSIDE ahead of FULL", x.feed(0, 0x20L), OUTSIDE);
        C.same("400 blanks are a town", x.town(), 0);
        C.same("its text is gone", x.told(2), 0);
        C.same("and is fed anew", x.feed(1, 0x20L), 1);
    }

    private static void town() {
        WarmStones x = new WarmStones();
        C.same("town: stones", Check.tell(x, "stone 500 20 300;stone 7 2 0;person beggar 12 34;frost 7 5;fine 9;"), 2);
        C.same("town: persons", x.told(1), 1);
        C.same("town: A", x.told(5), 7);
        C.same("town: B", x.told(6), 5);
        C.same("town: C", x.told(7), 9);
        C.same("town: no fault", x.fault(), NONE);
        C.same("town: empty text", x.town(), 0);
        C.same("town: nothing then", x.told(0) + x.told(1), 0);
        C.same("town: untold A", x.told(5), 3);
        C.same("town: untold B", x.told(6), 1);
        C.same("town: untold C", x.told(7), 0);
        String frosty = "frost 7 5;fine 9;";
        Check.tell(x, frosty);
        Check.tell(x, frosty);
        Check.tell(x, "stone 1 2 0;");
        C.same("town: untold again: A", x.told(5), 3);
        C.same("town: untold again: B", x.told(6), 1);
        C.same("town: untold again: C", x.told(7), 0);
        Check.tell(x, frosty + "bench");
        Check.tell(x, "stone 1 2 0;");
        C.same("town: of a faulty text nothing stays: A", x.told(5), 3);
        C.same("town: of a faulty text nothing stays: B", x.told(6), 1);
        C.same("town: of a faulty text nothing stays: C", x.told(7), 0);
        C.same("town: of a faulty text nothing stays: frost", Check.tell(x, frosty), 0);
    }

    private static void townStartsAnew() {
        String text = "stone 100 10 50;stone 80 9 40;person plain 90 95;person fat 70 10;frost 5 2;fine 3;";
        WarmStones x = Check.told(text);
        String first = Check.seen(x);
        x.sit(0, 1);
        x.own(0, 0, 5);
        x.own(1, 1, 6);
        x.write(0, 5);
        x.keep(0);
        x.keep(1);
        x.go(7);
        C.holds("the night has gone on", !Check.seen(x).equals(first));
        C.same("town again", Check.tell(x, text), 2);
        C.same("all is as at first", Check.seen(x), first);
        C.same("image 0 is gone", x.goBack(0), NOT);
        C.same("image 1 is gone", x.goBack(1), NOT);
        C.same("no book", x.tear(), 0);
        x.seed(77);
        Check.tell(x, text);
        C.same("the seed is not told by a town", x.seed(0), 77);
        Check.tell(x, "stone 9 9 9;");
        C.same("heats of stones that are gone do not count", x.told(10), 9);
        C.same("stones that are gone", x.stone(1, 0), UNKNOWN);
        C.same("persons that are gone", x.person(0, 0), UNKNOWN);
    }

    private static void faultyTownLeavesAll() {
        WarmStones x = Check.told("stone 100 10 50;stone 80 9 40;person plain 90 95;person fat 70 10;frost 5 2;fine 3;");
        x.sit(0, 1);
        x.own(1, 1, 6);
        x.write(0, 48);
        x.seed(5);
        x.go(3);
        x.keep(1);
        String before = Check.seen(x);
        C.same("a fault", Check.tell(x, "frost 9 9;fine 8;stone 1 2 1;person miser 1 1;person none 1 1;"), -11);
        C.same("its byte", x.fault(), 53);
        C.same("all is as it was", Check.seen(x).replace("fault 53", "fault -1"), before);
        C.same("the text is empty", x.told(2), 0);
        C.same("image 1 is still kept", x.goBack(1), 1);
        C.same("image 0 is not", x.goBack(0), NOT);
        C.same("the book stays", x.tear(), 1);
        C.same("a town without a fault", x.town(), 0);
        C.same("no fault then", x.fault(), NONE);
    }

    private static void goodTexts() {
        C.good("", 0, 0);
        C.good("    ", 0, 0);
        C.good("stone 1 2 0;", 1, 0);
        C.good("stone 9999 999 9999;", 1, 0);
        C.good("stone1 2 0;", 1, 0);
        C.good("  stone  0001   002 0  ;  ", 1, 0);
        C.good("person plain 0 0;person fat 9999 9999;person miser 1 1;person drain 1 1;person beggar 1 1;", 0, 5);
        C.good("person plain5 6;", 0, 1);
        C.good("frost 0 0;fine 0;", 0, 0);
        C.good("fine99;frost99 99;stone 5 5 5;", 1, 0);
        C.good("stone 1 2 0;".repeat(9) + "person fat 1 1;".repeat(8), 9, 8);
    }

    private static void misplaced() {
        C.bad("bench 1;", 1, 0);
        C.bad("  sto", 1, 2);
        C.bad("stones 1 2 0;", 1, 0);
        C.bad("stonez 1 2 0;", 1, 0);
        C.bad("stonea 1 2 0;", 1, 0);
        C.bad("atone 1 2 0;", 1, 0);
        C.bad("stond 1 2 0;", 1, 0);
        C.bad("Stone 1 2 0;", 1, 0);
        C.bad("stone", 1, 5);
        C.bad("stone  ", 1, 7);
        C.bad("stone 1", 1, 7);
        C.bad("stone 1 2", 1, 9);
        C.bad("stone 1 2 0", 1, 11);
        C.bad("stone 1 2 0 ", 1, 12);
        C.bad("stone 1 2 ;", 1, 10);
        C.bad("stone;", 1, 5);
        C.bad("stone x 2 0;", 1, 6);
        C.bad("stone 1 2 0 0;", 1, 12);
        C.bad("stone 1 2 0 00000;", 1, 12);
        C.bad("stone 1a 2 0;", 1, 7);
        C.bad("stone -1 2 0;", 1, 6);
        C.bad("stone 1,2 0;", 1, 7);
        C.bad("stone 1 2 0;;", 1, 12);
        C.bad("stone 1 2 0;5", 1, 12);
        C.bad("stone 1 2 0 stone 1 2 0;", 1, 12);
        C.bad("sto ne 1 2 0;", 1, 0);
        C.bad("person 1 1;", 1, 7);
        C.bad("person", 1, 6);
        C.bad("person fat", 1, 10);
        C.bad("person fat 1;", 1, 12);
        C.bad("person fatt 1 1;", 1, 7);
        C.bad("person fat drain 1 1;", 1, 11);
        C.bad("person stone 1 1;", 1, 7);
        C.bad("personfat 1 1;", 1, 0);
        C.bad("person pla in 1 1;", 1, 7);
        C.bad("plain 1 1;", 1, 0);
        C.bad("frost;", 1, 5);
        C.bad("frost 1;", 1, 7);
        C.bad("frost 1 1 1;", 1, 10);
        C.bad("fine;", 1, 4);
        C.bad("fine 1 1;", 1, 7);
        C.bad("fine 1", 1, 6);
        C.bad("fine 1;\n", 1, 7);
        C.bad("fine\t1;", 1, 4);
        C.bad("fine 1" + (char) 0 + ";", 1, 6);
        C.bad("fine 1;" + (char) 255, 1, 7);
        C.bad("fine 1;" + (char) 160, 1, 7);
        C.bad("fine 1;" + (char) ('s' + 128), 1, 7);
        C.bad(";", 1, 0);
        C.bad("fine 1;`", 1, 7);
        C.bad("fine 1;{", 1, 7);
        C.bad("fine /;", 1, 5);
        C.bad("fine :;", 1, 5);
    }

    private static void outOfBounds() {
        C.bad("stone 0 2 0;", 2, 6);
        C.bad("stone 10000 2 0;", 2, 6);
        C.bad("stone 00001 2 0;", 2, 6);
        C.bad("stone 1 1 0;", 2, 8);
        C.bad("stone 1 0 0;", 2, 8);
        C.bad("stone 1 1000 0;", 2, 8);
        C.bad("stone 1 00002 0;", 2, 8);
        C.bad("person plain 10000 0;", 2, 13);
        C.bad("person plain 0 10000;", 2, 15);
        C.bad("person plain 00000 0;", 2, 13);
        C.bad("frost 100 0;", 2, 6);
        C.bad("frost 0 100;", 2, 8);
        C.bad("fine 100;", 2, 5);
        C.bad("fine 00000;", 2, 5);
        C.bad("fine 4294967296;", 2, 5);
        C.bad("fine 4294967296x;", 2, 5);
        C.bad("fine " + "9".repeat(395), 2, 5);
        C.bad("fine 1000000000000000000000000000000000000;", 2, 5);
    }

    private static void tooMany() {
        C.bad("stone 1 2 0;".repeat(9) + " stone 1 2 0;", 3, 109);
        C.bad("stone 1 2 0;".repeat(9) + "stone;", 3, 108);
        C.bad("stone 1 2 0;".repeat(9) + "stonee;", 1, 108);
        C.bad("person fat 1 1;".repeat(8) + "person fat 1 1;", 3, 120);
        C.bad("person fat 1 1;".repeat(8) + "person", 3, 120);
        C.bad("frost 1 1;stone 1 2 0;frost 1 1;", 3, 22);
        C.bad("fine 1;fine 1;", 3, 7);
        C.bad("fine 0;  fine", 3, 9);
        C.bad("frost 3 1;frost 3 1;", 3, 10);
    }

    private static void aboveSize() {
        C.bad("stone 1 2 2;", 4, 10);
        C.bad("stone 9998 2 9999;", 4, 13);
        C.bad("stone 9 2 0010;", 4, 10);
        C.bad("stone 9 2 10000;", 2, 10);
        C.bad("stone 1 2 2", 4, 10);
        C.bad("stone 1 2 2 x", 4, 10);
    }

    private static void firstFaultCounts() {
        C.bad("stone 0 1 99999;bench", 2, 6);
        C.bad("stone 1 1 5;", 2, 8);
        C.bad("stone 1 2 5;stone 0 2 0;", 4, 10);
        C.bad("fine 1;fine 100;", 3, 7);
        C.bad("fine 1 fine 1;", 1, 7);
        C.bad("person thin 99999 1;", 1, 7);
        C.bad("stone 12345;", 2, 6);
        C.holds("a text of 400 bytes", lastByte());
        C.bad("a".repeat(400), 1, 0);
        shorterThanTheLast();
    }

    private static void shorterThanTheLast() {
        WarmStones x = new WarmStones();
        String[] texts = {"stonee", "stone", "stone 12 3 4;", "stone 1", "stone 1 2 0;", "stone 1 2 0", "fine 1;   ;", "fine 1; "};
        int[] due = {-11, -11, 1, -11, 1, -11, -11, 0};
        int[] at = {0, 5, NONE, 7, NONE, 11, 10, NONE};
        for (int k = 0; k < texts.length; k++) {
            C.same("behind a longer text: " + texts[k], Check.tell(x, texts[k]), due[k]);
            C.same("behind a longer text: " + texts[k], x.fault(), at[k]);
        }
    }

    private static boolean lastByte() {
        WarmStones x = new WarmStones();
        return Check.tell(x, " ".repeat(394) + "fine 1") == -11 && x.fault() == 400;
    }

    private static void told() {
        WarmStones x = Check.told("stone 100 10 50;stone 80 8 40;person plain 90 95;frost 5 2;fine 3;");
        Check.feed(x, "fine");
        x.write(1, 40);
        x.go(1);
        long[] due = {2, 1, 4, 1, 15, 5, 2, 3, 1, 1, 165};
        for (int what = 0; what < due.length; what++) {
            C.same("told " + what, x.told(what), due[what]);
        }
        for (int what : new int[] {-1, 11, Integer.MIN_VALUE, Integer.MAX_VALUE}) {
            C.same("told " + what, x.told(what), OUTSIDE);
        }
    }

    private static void stone() {
        WarmStones x = Check.told("stone 100 10 50;stone 80 8 40;person plain 90 95;person plain 1 1;");
        x.sit(1, 1);
        int[][] due = {{100, 10, 50, NONE}, {80, 8, 40, 1}};
        for (int b = 0; b < 2; b++) {
            for (int what = 0; what < 4; what++) {
                C.same("stone " + b + " " + what, x.stone(b, what), due[b][what]);
            }
            C.same("stone: what", x.stone(b, 4), OUTSIDE);
            C.same("stone: what", x.stone(b, -1), OUTSIDE);
        }
        for (int b : new int[] {-1, 2, 9, Integer.MIN_VALUE, Integer.MAX_VALUE}) {
            C.same("stone " + b, x.stone(b, 0), UNKNOWN);
            C.same("stone UNKNOWN ahead of OUTSIDE", x.stone(b, 9), UNKNOWN);
        }
    }

    private static void person() {
        WarmStones x = Check.told("stone 900 10 50;person plain 90 10;person fat 80 20;person miser 70 30;"
            + "person drain 60 40;person beggar 50 55;fine 7;frost 4 1;");
        x.sit(0, 0);
        x.go(2);
        int[][] due = {
            {0, 10, 80, 0, 0, 2, 0},
            {1, 20, 72, NONE, 0, 0, 14},
            {2, 30, 62, NONE, 0, 0, 14},
            {3, 40, 52, NONE, 0, 0, 14},
            {4, 55, 46, NONE, 2, 0, 14}};
        for (int p = 0; p < 5; p++) {
            for (int what = 0; what < 7; what++) {
                C.same("person " + p + " " + what, x.person(p, what), due[p][what]);
            }
            C.same("person: what", x.person(p, 7), OUTSIDE);
            C.same("person: what", x.person(p, -1), OUTSIDE);
        }
        for (int p : new int[] {-1, 5, 8, Integer.MIN_VALUE, Integer.MAX_VALUE}) {
            C.same("person " + p, x.person(p, 0), UNKNOWN);
            C.same("person UNKNOWN ahead of OUTSIDE", x.person(p, 7), UNKNOWN);
        }
    }

    private static void owned() {
        WarmStones x = Check.told("stone 900 10 50;stone 9 9 9;person plain 90 10;person fat 80 20;");
        C.same("owned at first", x.owned(0, 0), 0);
        x.own(0, 1, 7);
        x.own(1, 0, 8);
        C.same("owned 0 0", x.owned(0, 0), 0);
        C.same("owned 0 1", x.owned(0, 1), 7);
        C.same("owned 1 0", x.owned(1, 0), 8);
        C.same("owned 1 1", x.owned(1, 1), 0);
        for (int bad : new int[] {-1, 2, 8, Integer.MIN_VALUE, Integer.MAX_VALUE}) {
            C.same("owned p " + bad, x.owned(bad, 0), UNKNOWN);
            C.same("owned b " + bad, x.owned(0, bad), UNKNOWN);
        }
    }
}
