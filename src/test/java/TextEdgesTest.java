/** Section 1 and promises 2 to 4: each sentence about the text that names a boundary has a test of its own here. */
final class TextEdgesTest {
    private static final Check C = new Check("TextEdgesTest");
    private static final int NONE = WarmStones.NONE, OUTSIDE = WarmStones.OUTSIDE, FULL = WarmStones.FULL;
    private static final int[] NO_SUCH_LENGTH = {Integer.MIN_VALUE, -8, -1, 0, 9, 16, 64, 256 + 1, Integer.MAX_VALUE};

    public static void main(String[] args) {
        feedTakesOneToEightBytes();
        feedTakesTheHighestFirst();
        feedTakesAllBytes();
        feedFillsUpTo400();
        feedAddsNoPart();
        feedGoesOnBehindTown();
        textOf400Bytes();
        sizes();
        parts();
        heats();
        nineStones();
        kinds();
        warmths();
        needs();
        eightPersons();
        theFullTown();
        frosts();
        fines();
        frostOnce();
        fineOnce();
        untold();
        figures();
        numbersThatWrapAround();
        wordsAreLettersSideBySide();
        wordsWithOneLetterChanged();
        blanksMayStandAnywhere();
        blanksNotWithin();
        wordsAndNumbersSideBySide();
        everyByteAheadOfAClause();
        everyByteBehindAClause();
        everyByteWithinAWord();
        everyByteBehindAWord();
        everyByteBehindANumber();
        everyBeginning();
        faultAtTheFirstByte();
        ofFaultsAtOneByteTheLeast();
        townAnswersByFault();
        faultIsOfTheLatestTown();
        C.end();
    }

    // "Up to eight bytes (n 1 .. 8)"
    private static void feedTakesOneToEightBytes() {
        for (int n = 1; n <= 8; n++) {
            C.same("feed " + n, new WarmStones().feed(n, 0x2020202020202020L), n);
        }
        for (int n : NO_SUCH_LENGTH) {
            WarmStones x = new WarmStones();
            C.same("feed " + n, x.feed(n, 0x2020202020202020L), OUTSIDE);
            C.same("feed " + n + " adds none", x.told(2), 0);
        }
    }

    // "of a long, the highest of these first": bytes of the long above the n are none of these.
    private static void feedTakesTheHighestFirst() {
        WarmStones eight = new WarmStones();
        eight.feed(8, 0x66696e6520373b20L);
        C.same("eight bytes: a town", eight.town(), 0);
        C.same("eight bytes: fine 7", eight.told(7), 7);
        WarmStones seven = new WarmStones();
        seven.feed(7, 0xff66696e6520383bL);
        C.same("seven bytes: a town", seven.town(), 0);
        C.same("seven bytes: fine 8", seven.told(7), 8);
        WarmStones one = new WarmStones();
        for (char sign : "fine 12;".toCharArray()) {
            one.feed(1, 0x7a7a7a7a7a7a7a00L | sign);
        }
        C.same("one byte at a time: a town", one.town(), 0);
        C.same("one byte at a time: fine 12", one.told(7), 12);
    }

    private static void feedTakesAllBytes() {
        WarmStones x = new WarmStones();
        C.same("all bits", x.feed(8, -1L), 8);
        C.same("no bits", x.feed(8, 0L), 16);
        C.same("the lowest and the highest long", x.feed(8, Long.MIN_VALUE) + x.feed(8, Long.MAX_VALUE), 24 + 32);
        C.same("a town", x.town(), -11);
        C.same("its first byte", x.fault(), 0);
    }

    private static WarmStones withText(int length) {
        WarmStones x = new WarmStones();
        Check.feed(x, " ".repeat(length));
        return x;
    }

    // "FULL (400)"
    private static void feedFillsUpTo400() {
        for (int n = 1; n <= 8; n++) {
            C.same("just up to 400 by " + n, withText(400 - n).feed(n, 0x2020202020202020L), 400);
            C.same("just beyond 400 by " + n, withText(401 - n).feed(n, 0x2020202020202020L), FULL);
            C.same("at 400 by " + n, withText(400).feed(n, 0x2020202020202020L), FULL);
        }
        for (int n : NO_SUCH_LENGTH) {
            C.same("at 400: OUTSIDE ahead of FULL", withText(400).feed(n, 0), OUTSIDE);
        }
    }

    // "What is refused changes nothing": not even the bytes that would have had room.
    private static void feedAddsNoPart() {
        WarmStones x = new WarmStones();
        Check.feed(x, " ".repeat(392) + "fine 1");
        C.same("8 bytes where 2 have room", x.feed(8, 0x3b78787878787878L), FULL);
        C.same("still", x.told(2), 398);
        C.same("then one", x.feed(1, 0x3b), 399);
        C.same("then one more", x.feed(1, 0x20), 400);
        C.same("a town", x.town(), 0);
        C.same("as it was fed", x.told(7), 1);
    }

    // "(it is empty then)"
    private static void feedGoesOnBehindTown() {
        WarmStones x = withText(400);
        C.same("a full text", x.town(), 0);
        C.same("is empty then", x.told(2), 0);
        C.same("is fed anew", x.feed(8, 0x7878787878787878L), 8);
        C.same("a text with a fault", x.town(), -11);
        C.same("is empty then, too", x.told(2), 0);
        C.same("is fed anew, too", x.feed(3, 0x202020L), 3);
        C.same("only what was fed since", x.town(), 0);
    }

    // "a text (400 bytes at most)"
    private static void textOf400Bytes() {
        C.same("its last byte ends a clause", C.good(" ".repeat(392) + "fine 98;", 0, 0).told(7), 98);
        C.same("its first byte begins one", C.good("fine 97;" + " ".repeat(392), 0, 0).told(7), 97);
        C.bad(" ".repeat(393) + "fine 98", 1, 400);
        C.bad(" ".repeat(392) + "fine 98x", 1, 399);
        C.bad(" ".repeat(396) + "fine", 1, 400);
        C.bad(" ".repeat(397) + "fin", 1, 397);
        C.bad(";".repeat(400), 1, 0);
        C.bad("9".repeat(400), 1, 0);
        C.bad("z".repeat(400), 1, 0);
        C.good("", 0, 0);
        C.good(" ", 0, 0);
    }

    // "SIZE S 1 .. 9999"
    private static void sizes() {
        C.bad("stone 0 2 0;", 2, 6);
        C.same("SIZE 1", C.good("stone 1 2 0;", 1, 0).stone(0, 0), 1);
        C.same("SIZE 9999", C.good("stone 9999 2 0;", 1, 0).stone(0, 0), 9999);
        C.bad("stone 10000 2 0;", 2, 6);
        C.bad("stone 0000 2 0;", 2, 6);
    }

    // "K 2 .. 999"
    private static void parts() {
        C.bad("stone 5 0 0;", 2, 8);
        C.bad("stone 5 1 0;", 2, 8);
        C.same("K 2", C.good("stone 5 2 0;", 1, 0).stone(0, 1), 2);
        C.same("K 999", C.good("stone 5 999 0;", 1, 0).stone(0, 1), 999);
        C.bad("stone 5 1000 0;", 2, 8);
        C.bad("stone 5 9999 0;", 2, 8);
    }

    // "HEAT at first H, 0 .. S", "4 an H above its S (at it)"
    private static void heats() {
        C.same("HEAT 0", C.good("stone 1 2 0;", 1, 0).stone(0, 2), 0);
        C.same("HEAT 1 of 1", C.good("stone 1 2 1;", 1, 0).stone(0, 2), 1);
        C.bad("stone 1 2 2;", 4, 10);
        C.same("HEAT 9999 of 9999", C.good("stone 9999 2 9999;", 1, 0).stone(0, 2), 9999);
        C.bad("stone 9998 2 9999;", 4, 13);
        C.bad("stone 1 2 9999;", 4, 10);
        C.bad("stone 9999 2 10000;", 2, 13);
        C.bad("stone 9 2 9;stone 8 2 9;", 4, 22);
        C.same("each by its own S", C.good("stone 8 2 8;stone 9 2 9;", 2, 0).stone(1, 2), 9);
    }

    // "9 STONES at most", "3 a tenth STONE"
    private static void nineStones() {
        StringBuilder text = new StringBuilder();
        for (int k = 1; k <= 9; k++) {
            text.append("stone ").append(k).append(' ').append(k + 1).append(' ').append(k - 1).append(';');
            C.good(text.toString(), k, 0);
        }
        WarmStones x = C.good(text.toString(), 9, 0);
        for (int b = 0; b < 9; b++) {
            C.same("SIZE of " + b, x.stone(b, 0), b + 1);
            C.same("K of " + b, x.stone(b, 1), b + 2);
            C.same("HEAT of " + b, x.stone(b, 2), b);
        }
        C.bad(text + "stone 1 2 0;", 3, text.length());
        C.bad(text + "   stone 1 2 0;", 3, text.length() + 3);
        C.bad(text + "stone", 3, text.length());
        C.bad(text + "stone 0 0 0", 3, text.length());
        C.bad(text + "ston", 1, text.length());
        C.good(text + "person fat 1 1;fine 1;frost 1 1;", 9, 1);
    }

    // "kind 'plain' 'fat' 'miser' 'drain' 'beggar', numbered so"
    private static void kinds() {
        String[] kinds = {"plain", "fat", "miser", "drain", "beggar"};
        for (int kind = 0; kind < kinds.length; kind++) {
            C.same(kinds[kind], C.good("person " + kinds[kind] + " 1 1;", 0, 1).person(0, 0), kind);
            C.bad("person " + kinds[kind] + "s 1 1;", 1, 7);
            C.bad("person " + kinds[kind].substring(1) + " 1 1;", 1, 7);
            C.bad("person " + kinds[kind].substring(0, kinds[kind].length() - 1) + " 1 1;", 1, 7);
            C.bad(kinds[kind] + " 1 1;", 1, 0);
        }
        for (String word : new String[] {"stone", "person", "frost", "fine"}) {
            C.bad("person " + word + " 1 1;", 1, 7);
        }
    }

    // "WARMTH W 0 .. 9999"
    private static void warmths() {
        C.same("WARMTH 0", C.good("person fat 0 5;", 0, 1).person(0, 2), 0);
        C.same("WARMTH 9999", C.good("person fat 9999 5;", 0, 1).person(0, 2), 9999);
        C.bad("person fat 10000 5;", 2, 11);
        C.bad("person fat -1 5;", 1, 11);
    }

    // "NEED N 0 .. 9999"
    private static void needs() {
        C.same("NEED 0", C.good("person fat 5 0;", 0, 1).person(0, 1), 0);
        C.same("NEED 9999", C.good("person fat 5 9999;", 0, 1).person(0, 1), 9999);
        C.bad("person fat 5 10000;", 2, 13);
        C.bad("person fat 5 -1;", 1, 13);
    }

    // "8 PERSONS at most", "3 a ninth PERSON"
    private static void eightPersons() {
        StringBuilder text = new StringBuilder();
        for (int k = 1; k <= 8; k++) {
            text.append("person fat ").append(k).append(' ').append(k + 1).append(';');
            C.good(text.toString(), 0, k);
        }
        WarmStones x = C.good(text.toString(), 0, 8);
        for (int p = 0; p < 8; p++) {
            C.same("WARMTH of " + p, x.person(p, 2), p + 1);
            C.same("NEED of " + p, x.person(p, 1), p + 2);
        }
        C.bad(text + "person fat 1 1;", 3, text.length());
        C.bad(text + " person fat 1 1;", 3, text.length() + 1);
        C.bad(text + "person", 3, text.length());
        C.bad(text + "person thin", 3, text.length());
        C.bad(text + "persona", 1, text.length());
        C.good(text + "stone 1 2 0;fine 1;frost 1 1;", 1, 8);
    }

    private static void theFullTown() {
        String text = "stone 1 2 0;".repeat(9) + "person fat 1 1;".repeat(8) + "frost 9 9;fine 9;";
        WarmStones x = C.good(text + " ".repeat(400 - text.length()), 9, 8);
        C.same("its last STONE", x.stone(8, 0), 1);
        C.same("its last PERSON", x.person(7, 0), 1);
        C.bad(text + "stone", 3, text.length());
        C.bad(text + "person", 3, text.length());
        C.bad(text + "frost", 3, text.length());
        C.bad(text + "fine", 3, text.length());
    }

    // "'frost' A B ';' (0 .. 99 both: WARMTH that one loses a minute who stands, who sits"
    private static void frosts() {
        for (int[] one : new int[][] {{0, 0}, {99, 99}, {0, 99}, {99, 0}, {1, 2}}) {
            WarmStones x = C.good("frost " + one[0] + " " + one[1] + ";", 0, 0);
            C.same("A", x.told(5), one[0]);
            C.same("B", x.told(6), one[1]);
        }
        C.bad("frost 100 0;", 2, 6);
        C.bad("frost 0 100;", 2, 8);
        C.bad("frost 9999 0;", 2, 6);
    }

    // "'fine' C ';' (0 .. 99 a minute"
    private static void fines() {
        C.same("C 0", C.good("fine 0;", 0, 0).told(7), 0);
        C.same("C 1", C.good("fine 1;", 0, 0).told(7), 1);
        C.same("C 99", C.good("fine 99;", 0, 0).told(7), 99);
        C.bad("fine 100;", 2, 5);
    }

    // "once", "3 .. 'frost', 'fine' again (at its first letter)"
    private static void frostOnce() {
        C.bad("frost 3 1;frost 3 1;", 3, 10);
        C.bad("frost 0 0; frost 0 0;", 3, 11);
        C.bad("frost 3 1;frost", 3, 10);
        C.bad("frost 3 1;frost 100", 3, 10);
        C.bad("frost 3 1;frosty", 1, 10);
        C.bad("frost 3 1;fine 1;frost 3 1;", 3, 17);
    }

    private static void fineOnce() {
        C.bad("fine 0;fine 0;", 3, 7);
        C.bad("fine 1;  fine 1;", 3, 9);
        C.bad("fine 1;fine", 3, 7);
        C.bad("fine 1;fin", 1, 7);
        C.bad("fine 1;frost 3 1;fine 0;", 3, 17);
    }

    // "3 1 untold", "0 untold": also behind a town that told them, and behind a text with a fault that did.
    private static void untold() {
        WarmStones x = C.good("stone 1 2 0;", 1, 0);
        untoldOf(x);
        Check.tell(x, "frost 7 8;fine 9;");
        Check.tell(x, "person fat 1 1;");
        untoldOf(x);
        Check.tell(x, "frost 7 8;fine 9;x");
        untoldOf(x);
        Check.tell(x, " ");
        untoldOf(x);
        Check.tell(x, "frost 7 8;");
        C.same("only frost told: C", x.told(7), 0);
        Check.tell(x, "fine 9;");
        C.same("only fine told: A", x.told(5), 3);
        C.same("only fine told: B", x.told(6), 1);
    }

    private static void untoldOf(WarmStones x) {
        C.same("untold A", x.told(5), 3);
        C.same("untold B", x.told(6), 1);
        C.same("untold C", x.told(7), 0);
    }

    // "NUMBERS have one to four figures", "2 a NUMBER of five figures or more, or out of its bounds (at its first)"
    private static void figures() {
        for (String number : new String[] {"7", "07", "007", "0007"}) {
            C.same("fine " + number, C.good("fine " + number + ";", 0, 0).told(7), 7);
        }
        C.bad("fine ;", 1, 5);
        C.bad("fine 00007;", 2, 5);
        C.bad("fine 000007;", 2, 5);
        C.bad("stone 0001 0002 00000;", 2, 16);
        C.bad("person fat 00001 1;", 2, 11);
        C.bad("person fat 1 00001;", 2, 13);
        C.bad("frost 00001 1;", 2, 6);
        C.bad("frost 1 00001;", 2, 8);
        C.bad("stone 00001 2 0;", 2, 6);
        C.bad("stone 1 00002 0;", 2, 8);
    }

    // Figures that wrap around to a number within bounds are still five or more.
    private static void numbersThatWrapAround() {
        C.bad("fine 4294967297;", 2, 5);
        C.bad("fine 18446744073709551617;", 2, 5);
        C.bad("stone 4294967301 2 0;", 2, 6);
        C.bad("fine 65537;", 2, 5);
        C.bad("fine 257;", 2, 5);
        C.bad("fine " + "0".repeat(394) + ";", 2, 5);
    }

    // "words are letters a .. z side by side"
    private static void wordsAreLettersSideBySide() {
        for (String text : new String[] {"STONE 1 2 0;", "Stone 1 2 0;", "stonE 1 2 0;", "sTone 1 2 0;", "a", "z", "stonestone 1 2 0;"}) {
            C.bad(text, 1, 0);
        }
        C.bad("person Fat 1 1;", 1, 7);
        C.bad("person faT 1 1;", 1, 7);
        C.bad("person f,at 1 1;", 1, 7);
    }

    private static void wordsWithOneLetterChanged() {
        for (String word : new String[] {"stone", "person", "frost", "fine"}) {
            for (int at = 0; at < word.length(); at++) {
                C.bad(changed(word, at, 1) + " 1 2 0;", 1, 0);
                C.bad(changed(word, at, -1) + " 1 2 0;", 1, 0);
            }
        }
        for (String kind : new String[] {"plain", "fat", "miser", "drain", "beggar"}) {
            for (int at = 0; at < kind.length(); at++) {
                C.bad("person " + changed(kind, at, 1) + " 1 1;", 1, 7);
                C.bad("person " + changed(kind, at, -1) + " 1 1;", 1, 7);
            }
        }
    }

    private static String changed(String word, int at, int by) {
        return word.substring(0, at) + (char) (word.charAt(at) + by) + word.substring(at + 1);
    }

    // "blanks (32) may stand anywhere"
    private static void blanksMayStandAnywhere() {
        for (String gap : new String[] {" ", "  ", "          "}) {
            String text = "|stone|11|12|10|;|person|fat|13|14|;|frost|15|16|;|fine|17|;|".replace("|", gap);
            WarmStones x = C.good(text, 1, 1);
            C.same("S", x.stone(0, 0), 11);
            C.same("K", x.stone(0, 1), 12);
            C.same("H", x.stone(0, 2), 10);
            C.same("W", x.person(0, 2), 13);
            C.same("N", x.person(0, 1), 14);
            C.same("A B C", x.told(5) * 10000 + x.told(6) * 100 + x.told(7), 151617);
        }
    }

    // "but within words and NUMBERS"
    private static void blanksNotWithin() {
        C.bad("st one 1 2 0;", 1, 0);
        C.bad("per son fat 1 1;", 1, 0);
        C.bad("person f at 1 1;", 1, 7);
        C.bad("person beg gar 1 1;", 1, 7);
        C.bad("fine 1 2;", 1, 7);
        C.bad("frost 1 2 3;", 1, 10);
        C.bad("person fat 1 2 3;", 1, 15);
    }

    // "two words, two NUMBERS side by side need one": a word and a NUMBER, and what is beside ';', need none.
    private static void wordsAndNumbersSideBySide() {
        WarmStones x = C.good("stone11 12 10;person fat13 14;frost15 16;fine17;", 1, 1);
        C.same("S", x.stone(0, 0), 11);
        C.same("W", x.person(0, 2), 13);
        C.same("A B C", x.told(5) * 10000 + x.told(6) * 100 + x.told(7), 151617);
        C.bad("personfat 1 1;", 1, 0);
        C.bad("stone 12 0;", 2, 9);
        C.bad("stone 12 20;", 1, 11);
        C.bad("person fat 11;", 1, 13);
        C.bad("frost 11;", 1, 8);
        C.bad("fine 1fine 2;", 1, 6);
        C.bad("person fat 1 1person fat 1 1;", 1, 14);
    }

    // "1 it cannot stand there (a word that cannot: at its first letter)": every byte at each sort of place.
    private static void everyByteAheadOfAClause() {
        for (int sign = 0; sign < 256; sign++) {
            String text = (char) sign + "fine 1;";
            if (sign == ' ') {
                C.good(text, 0, 0);
            } else {
                C.bad(text, 1, 0);
            }
        }
    }

    private static void everyByteBehindAClause() {
        for (int sign = 0; sign < 256; sign++) {
            String text = "fine 1;" + (char) sign;
            if (sign == ' ') {
                C.good(text, 0, 0);
            } else {
                C.bad(text, 1, 7);
            }
        }
    }

    private static void everyByteWithinAWord() {
        for (int sign = 0; sign < 256; sign++) {
            C.bad("fi" + (char) sign + "ne 1;", 1, 0);
            C.bad("person f" + (char) sign + "at 1 1;", 1, 7);
        }
    }

    private static void everyByteBehindAWord() {
        for (int sign = 0; sign < 256; sign++) {
            String text = "fine" + (char) sign + "1;";
            if (sign == ' ') {
                C.same(text, C.good(text, 0, 0).told(7), 1);
            } else if (sign >= '0' && sign <= '9') {
                C.same(text, C.good(text, 0, 0).told(7), 10 * (sign - '0') + 1);
            } else {
                C.bad(text, 1, sign >= 'a' && sign <= 'z' ? 0 : 4);
            }
        }
    }

    private static void everyByteBehindANumber() {
        for (int sign = 0; sign < 256; sign++) {
            String text = "fine 1" + (char) sign + ";";
            if (sign == ' ') {
                C.same(text, C.good(text, 0, 0).told(7), 1);
            } else if (sign >= '0' && sign <= '9') {
                C.same(text, C.good(text, 0, 0).told(7), 10 + sign - '0');
            } else {
                C.bad(text, 1, sign == ';' ? 7 : 6);
            }
        }
    }

    // "(the end at the text's length)": a beginning of a text lacks something, but where a clause has ended.
    private static void everyBeginning() {
        String text = "stone 12 34 5; person plain 67 8;frost 9 10; fine 11;person beggar 12 13;";
        int wordAt = 0;
        for (int length = 0; length < text.length(); length++) {
            boolean withinWord = length > 0 && letter(text, length - 1) && letter(text, length);
            if (!letter(text, length)) {
                wordAt = length + 1;
            }
            String begun = text.substring(0, length);
            if (begun.isBlank() || begun.trim().endsWith(";")) {
                C.same("a town: " + begun, Check.tell(new WarmStones(), begun), begun.isEmpty() ? 0 : 1);
            } else {
                C.bad(begun, 1, withinWord ? wordAt : length);
            }
        }
        C.good(text, 1, 2);
    }

    private static boolean letter(String text, int at) {
        return text.charAt(at) >= 'a' && text.charAt(at) <= 'z';
    }

    // "FAULTS, at the first byte that has one": a later one does not count, whatever its number.
    private static void faultAtTheFirstByte() {
        C.bad("stone 1 2 9;x", 4, 10);
        C.bad("stone 1 2 9x", 4, 10);
        C.bad("stone 1 2 9", 4, 10);
        C.bad("stone 1 2 9 9;", 4, 10);
        C.bad("stone 1 2 9;stone 0 2 0;", 4, 10);
        C.bad("fine 1;fine 100;", 3, 7);
        C.bad("fine 1;fine x", 3, 7);
        C.bad("fine 100;x", 2, 5);
        C.bad("fine 100x", 2, 5);
        C.bad("fine 100", 2, 5);
        C.bad("stone 0 1 0;", 2, 6);
        C.bad("stone 5 1 9;", 2, 8);
        C.bad("person thin 10000 10000;", 1, 7);
        C.bad("x stone 0 0 0;", 1, 0);
    }

    // "of these the least"
    private static void ofFaultsAtOneByteTheLeast() {
        // A NUMBER of five figures where none can stand: 1 and 2.
        C.bad("10000;", 1, 0);
        C.bad("fine 1 10000;", 1, 7);
        C.bad("person 10000 1 1;", 1, 7);
        // 'fine', 'stone' again where no word can stand: 1 and 3.
        C.bad("fine 1 fine 1;", 1, 7);
        C.bad("fine 1;fine", 3, 7);
        C.bad("fine 1;stone fine 1;", 1, 13);
        C.bad("stone 1 2 0;".repeat(9) + "person stone 1 1;", 1, 115);
        // An H out of its bounds and above its S: 2 and 4.
        C.bad("stone 1 2 10000;", 2, 10);
        C.bad("stone 1 2 00009;", 2, 10);
        // A NUMBER above S behind H: 1 only.
        C.bad("stone 5 2 5 9;", 1, 12);
    }

    // "-10 less the number of its FAULT"
    private static void townAnswersByFault() {
        String[] texts = {"x", "fine 100;", "fine 1;fine 1;", "stone 1 2 2;"};
        for (int k = 0; k < texts.length; k++) {
            C.same(texts[k], Check.tell(new WarmStones(), texts[k]), -11 - k);
        }
    }

    // "The byte of the FAULT of the latest town(); NONE."
    private static void faultIsOfTheLatestTown() {
        WarmStones x = new WarmStones();
        C.same("no town yet", x.fault(), NONE);
        Check.feed(x, "fine 100;");
        C.same("not yet read", x.fault(), NONE);
        x.town();
        C.same("a fault", x.fault(), 5);
        C.same("looked at again", x.fault(), 5);
        Check.feed(x, "x");
        C.same("the next not yet read", x.fault(), 5);
        x.town();
        C.same("the latest", x.fault(), 0);
        x.town();
        C.same("a town without a fault", x.fault(), NONE);
        Check.tell(x, " ".repeat(399) + "y");
        C.same("the last byte of all", x.fault(), 399);
        Check.tell(x, " ".repeat(393) + "fine 1 ");
        C.same("the end of all", x.fault(), 400);
    }
}
