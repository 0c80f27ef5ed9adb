/** Promises 20 to 25: write, tear, judge, seed, keep, goBack. */
final class BooksTest {
    private static final Check C = new Check("BooksTest");
    private static final int NONE = WarmStones.NONE, UNKNOWN = WarmStones.UNKNOWN, OUTSIDE = WarmStones.OUTSIDE;
    private static final int NOT = WarmStones.NOT, FULL = WarmStones.FULL;

    public static void main(String[] args) {
        writeAndTear();
        judge();
        judgeFromNow();
        seed();
        images();
        imagesKeepJustThat();
        imageRefusals();
        C.end();
    }

    private static void writeAndTear() {
        WarmStones x = Check.told("stone 9 9 9;stone 9 9 0;");
        C.same("tear: none", x.tear(), 0);
        for (int b : new int[] {-1, 2, Integer.MIN_VALUE, Integer.MAX_VALUE}) {
            C.same("write b " + b, x.write(b, 0), UNKNOWN);
            C.same("write UNKNOWN ahead of OUTSIDE", x.write(b, -1), UNKNOWN);
        }
        for (int heat : new int[] {-1, 10000, Integer.MIN_VALUE, Integer.MAX_VALUE}) {
            C.same("write heat " + heat, x.write(0, heat), OUTSIDE);
        }
        C.same("write refused", x.told(8), 0);
        for (int k = 1; k <= 30; k++) {
            C.same("write", x.write(k % 2, k == 30 ? 9999 : 0), k);
        }
        C.same("write: full", x.write(0, 0), FULL);
        C.same("write: OUTSIDE ahead of FULL", x.write(0, 10000), OUTSIDE);
        C.same("write: UNKNOWN ahead of FULL", x.write(2, 0), UNKNOWN);
        C.same("write refused", x.told(8), 30);
        C.same("tear", x.tear(), 30);
        C.same("tear again", x.tear(), 0);
        C.same("no book", x.told(8), 0);
        C.same("write anew", x.write(1, 0), 1);
    }

    // Stone 0: 100, 110, 117, 123 (170, 163, 157 ..); stone 1: 8, 4, 2, 1, 0.
    private static WarmStones warming() {
        WarmStones x = Check.told("frost 0 0;stone 999 10 100;stone 999 2 8;person plain 180 0;");
        x.sit(0, 0);
        return x;
    }

    private static void judge() {
        WarmStones x = warming();
        C.same("judge: no book", x.judge(), NONE);
        x.write(0, 100);
        C.same("judge 1", x.judge(), NONE);
        x.write(1, 4);
        C.same("judge 2", x.judge(), NONE);
        x.write(0, 117);
        C.same("judge 3", x.judge(), NONE);
        x.write(1, 2);
        C.same("judge 4", x.judge(), 3);
        x.write(1, 5);
        C.same("judge: the first", x.judge(), 3);
        x.tear();
        x.write(0, 99);
        C.same("judge: now", x.judge(), 0);
        x.tear();
        C.same("judge: torn", x.judge(), NONE);
        for (int k = 0; k < 30; k++) {
            x.write(1, k < 4 ? 8 >> k : 0);
        }
        C.same("judge: thirty", x.judge(), NONE);
        x.tear();
        for (int k = 0; k < 30; k++) {
            x.write(1, k < 4 ? 8 >> k : k < 29 ? 0 : 1);
        }
        C.same("judge: the last of thirty", x.judge(), 29);
    }

    private static void judgeFromNow() {
        WarmStones x = warming();
        x.write(0, 110);
        x.write(0, 117);
        x.write(1, 1);
        C.same("judge ahead", x.judge(), 0);
        x.go(1);
        C.same("judge a minute later", x.judge(), NONE);
        x.sit(0, NONE);
        C.same("judge as they sit now", x.judge(), 1);
        x.go(1);
        C.same("judge later still", x.judge(), 0);
    }

    private static void seed() {
        WarmStones x = new WarmStones();
        C.same("seed at first", x.seed(5), 0);
        C.same("seed", x.seed(2147483647), 5);
        C.same("seed", x.seed(-1), OUTSIDE);
        C.same("seed", x.seed(Integer.MIN_VALUE), OUTSIDE);
        C.same("seed refused", x.seed(0), 2147483647);
        Check.tell(x, "person plain 9 9;");
        x.seed(7);
        x.drift(1);
        // 7 times 1103515245 and 12345 leaves 1282168116: a draw of 19564, by 4 none left over; then a draw of one.
        C.same("seed behind two draws", x.seed(0), (int) ((1282168116L * 1103515245L + 12345L) % 2147483648L));
        x.seed(1);
        x.drift(1);
        // 1103527590: a draw of 16838, 2 left over.
        C.same("seed behind one draw", x.seed(0), 1103527590);
    }

    private static void images() {
        WarmStones x = Check.told("frost 6 2;fine 5;stone 500 20 300;stone 200 10 0;person plain 400 390;person fat 900 0;");
        x.sit(0, 0);
        x.own(0, 0, 2);
        x.own(1, 1, 9);
        x.seed(3);
        x.go(4);
        String first = Check.seen(x);
        C.same("keep 0", x.keep(0), 1);
        C.same("keeping changes nothing", Check.seen(x), first);
        x.drift(30);
        x.own(1, 0, 5);
        String second = Check.seen(x);
        C.same("keep 1", x.keep(1), 1);
        x.drift(30);
        String third = Check.seen(x);
        C.holds("three that differ", !first.equals(second) && !second.equals(third) && !first.equals(third));
        C.same("back to 0", x.goBack(0), 1);
        C.same("as it was", Check.seen(x), first);
        x.drift(7);
        C.same("back to 1", x.goBack(1), 1);
        C.same("as it was", Check.seen(x), second);
        x.drift(30);
        C.same("it goes on alike", Check.seen(x), third);
        C.same("back to 0 again", x.goBack(0), 1);
        C.same("an image stays kept", Check.seen(x), first);
        C.same("keep 1 anew", x.keep(1), 1);
        x.go(9);
        x.goBack(1);
        C.same("the newer image", Check.seen(x), first);
        WarmStones most = Check.told("fine 2;" + "stone 9 2 8;".repeat(9) + "person fat 9 9;".repeat(8));
        for (int p = 0; p < 8; p++) {
            most.sit(p, p + 1);
            most.own(p, p + 1, p + 2);
        }
        most.go(5);
        String before = Check.seen(most);
        most.keep(1);
        most.drift(50);
        most.goBack(1);
        C.same("a full town's image", Check.seen(most), before);
    }

    private static void imagesKeepJustThat() {
        WarmStones x = Check.told("stone 500 20 300;person plain 400 390;");
        x.write(0, 1);
        x.keep(0);
        x.write(0, 2);
        Check.feed(x, "fine 1");
        x.goBack(0);
        C.same("the book is no part of it", x.told(8), 2);
        C.same("the text is no part of it", x.told(2), 6);
        x.town();
        C.same("nor is the fault", x.fault(), 6);
        x.goBack(0);
        C.same("nor is the fault", x.fault(), 6);
    }

    private static void imageRefusals() {
        WarmStones x = Check.told("stone 500 20 300;person plain 400 390;");
        for (int i : new int[] {-1, 2, Integer.MIN_VALUE, Integer.MAX_VALUE}) {
            C.same("keep " + i, x.keep(i), UNKNOWN);
            C.same("goBack " + i, x.goBack(i), UNKNOWN);
        }
        x.go(3);
        String before = Check.seen(x);
        C.same("goBack: not kept", x.goBack(0), NOT);
        C.same("goBack: not kept", x.goBack(1), NOT);
        x.keep(1);
        C.same("goBack: the other", x.goBack(0), NOT);
        C.same("goBack refused", Check.seen(x), before);
        C.same("goBack", x.goBack(1), 1);
    }
}
