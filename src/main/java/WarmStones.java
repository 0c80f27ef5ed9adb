/** Stones that keep the warmth of whoever sat on them and give it to who sits next: see README.md. */
public final class WarmStones {
    public static final int NONE = -1, UNKNOWN = -1000000001, OUTSIDE = -1000000002, NOT = -1000000003, FULL = -1000000004;

    private static final int MOST_STONES = 9;
    private static final int MOST_PERSONS = 8;
    private static final int MOST_BYTES = 400;
    private static final int MOST_ENTRIES = 30;
    private static final int MOST_OWNED = 99999;
    private static final int MOST_MINUTES = 999;
    private static final int MOST_TRIED = 60;
    private static final int MOST_SEATED = 4;
    private static final int MOST_PASSED = 6;
    private static final int IMAGES = 2;
    private static final int LARGEST = 9999;
    private static final int SMALL = 99;

    private static final int PLAIN = 0, FAT = 1, MISER = 2, DRAIN = 3, BEGGAR = 4;

    private final Text text = new Text();
    private Town town = new Town();
    // A text with a fault must leave the town as it was, so each text is read into this one first.
    private Town spare = new Town();
    private final Night night = new Night();
    private final Night trial = new Night();
    private final Night[] images = new Night[] {new Night(), new Night()};
    private int kept;
    private final Book book = new Book();
    private final Sitting sitting = new Sitting();
    private final Seating seats = new Seating();
    private final Passing passing = new Passing();

    public WarmStones() {
    }

    // ---- the town

    public int feed(int n, long bytes) {
        if (!within(n, 1, 8)) {
            return OUTSIDE;
        }
        if (!text.hasRoomFor(n)) {
            return FULL;
        }
        text.append(n, bytes);
        return text.length;
    }

    public int town() {
        int fault = text.readInto(spare);
        if (fault != 0) {
            return -10 - fault;
        }
        Town before = town;
        town = spare;
        spare = before;
        night.begin(town);
        book.entries = 0;
        kept = 0;
        return town.stones;
    }

    public int fault() {
        return text.faultByte;
    }

    public long told(int what) {
        switch (what) {
            case 0: return town.stones;
            case 1: return town.persons;
            case 2: return text.length;
            case 3: return night.minute;
            case 4: return night.lost;
            case 5: return town.frostStanding;
            case 6: return town.frostSitting;
            case 7: return town.fine;
            case 8: return book.entries;
            case 9: return sumOf(night.cold);
            case 10: return sumOf(night.heat) + sumOf(night.warmth);
            default: return OUTSIDE;
        }
    }

    public int stone(int b, int what) {
        if (!town.hasStone(b)) {
            return UNKNOWN;
        }
        switch (what) {
            case 0: return town.size[b];
            case 1: return town.part[b];
            case 2: return night.heat[b];
            case 3: return night.sitterOn(b);
            default: return OUTSIDE;
        }
    }

    public int person(int p, int what) {
        if (!town.hasPerson(p)) {
            return UNKNOWN;
        }
        switch (what) {
            case 0: return town.kind[p];
            case 1: return town.need[p];
            case 2: return night.warmth[p];
            case 3: return night.seat[p];
            case 4: return night.cold[p];
            case 5: return night.stolen[p];
            case 6: return night.owed[p];
            default: return OUTSIDE;
        }
    }

    public int owned(int p, int b) {
        if (!town.hasPerson(p) || !town.hasStone(b)) {
            return UNKNOWN;
        }
        return night.owned[ownedAt(p, b)];
    }

    // ---- minutes

    public int sit(int p, int b) {
        if (!town.hasPerson(p) || b != NONE && !town.hasStone(b)) {
            return UNKNOWN;
        }
        int before = night.seat[p];
        if (b != NONE && b != before && night.sitterOn(b) != NONE) {
            return NOT;
        }
        night.seat[p] = b;
        return before;
    }

    public int go(int n) {
        if (!within(n, 1, MOST_MINUTES)) {
            return OUTSIDE;
        }
        int coldOnes = 0;
        for (int i = 0; i < n; i++) {
            coldOnes = night.passMinute(town);
        }
        return coldOnes;
    }

    public int drift(int n) {
        if (!within(n, 1, MOST_MINUTES)) {
            return OUTSIDE;
        }
        int coldOnes = 0;
        for (int i = 0; i < n; i++) {
            night.moveByDraws(town);
            coldOnes = night.passMinute(town);
        }
        return coldOnes;
    }

    public int own(int p, int b, int n) {
        if (!town.hasPerson(p) || !town.hasStone(b)) {
            return UNKNOWN;
        }
        if (!within(n, 1, LARGEST)) {
            return OUTSIDE;
        }
        int at = ownedAt(p, b);
        night.owned[at] = Math.min(night.owned[at] + n, MOST_OWNED);
        return night.owned[at];
    }

    public int trade(int p, int q, int b, int n) {
        if (!town.hasPerson(p) || !town.hasPerson(q) || p == q || !town.hasStone(b)) {
            return UNKNOWN;
        }
        if (!within(n, 1, LARGEST)) {
            return OUTSIDE;
        }
        int from = ownedAt(p, b);
        int to = ownedAt(q, b);
        if (night.owned[from] < n) {
            return NOT;
        }
        if (night.owned[to] + n > MOST_OWNED) {
            return FULL;
        }
        night.owned[from] -= n;
        night.owned[to] += n;
        return night.owned[from];
    }

    public int forgive(int p) {
        if (!town.hasPerson(p)) {
            return UNKNOWN;
        }
        int before = night.owed[p];
        night.owed[p] = 0;
        night.stolen[p] = 0;
        return before;
    }

    // ---- tried

    public int seating(int m, int what) {
        if (!within(m, 1, MOST_TRIED) || what < 0 || what > 1 && !town.hasPerson(what - 2)) {
            return OUTSIDE;
        }
        if (!within(town.persons, 1, MOST_SEATED)) {
            return NOT;
        }
        seats.search(town, night, m);
        return seats.answer(what);
    }

    public int passed(int b, int set, int m, int what) {
        if (!town.hasStone(b) || set >>> town.persons != 0) {
            return UNKNOWN;
        }
        int count = Integer.bitCount(set);
        if (!within(m, 1, MOST_TRIED) || !within(count, 1, MOST_PASSED) || !within(what, 0, count)) {
            return OUTSIDE;
        }
        passing.search(town, night, b, set, m);
        return passing.answer(what);
    }

    public int gift(int p, int m) {
        if (!town.hasPerson(p)) {
            return UNKNOWN;
        }
        if (!within(m, 0, SMALL)) {
            return OUTSIDE;
        }
        int sum = 0;
        for (int q = 0; q < town.persons; q++) {
            if (q != p) {
                sum += giftOf(q, m);
            }
        }
        return sum;
    }

    public int palms(int b, int m, int v, int e, int i) {
        if (!town.hasStone(b)) {
            return UNKNOWN;
        }
        if (!within(m, 1, MOST_TRIED) || !within(v, 0, LARGEST) || !within(e, 0, LARGEST)) {
            return OUTSIDE;
        }
        int found = 0;
        for (int p = 0; p < town.persons; p++) {
            sitting.begin(night.warmth[p], night.heat[b]);
            for (int j = 1; j <= m; j++) {
                sitting.passMinute(town, p, b);
                int felt = town.heatLeft(b, sitting.heat, m - j);
                if (Math.abs(felt - v) <= e) {
                    if (found == i) {
                        return 100 * p + j;
                    }
                    found++;
                }
            }
        }
        return i == NONE ? found : NONE;
    }

    public int safe() {
        trial.copyFrom(night);
        for (int minutes = 0; minutes < MOST_MINUTES; minutes++) {
            if (trial.passMinute(town) != 0) {
                return minutes;
            }
        }
        return MOST_MINUTES;
    }

    // ---- books, draws, images

    public int write(int b, int heat) {
        if (!town.hasStone(b)) {
            return UNKNOWN;
        }
        if (!within(heat, 0, LARGEST)) {
            return OUTSIDE;
        }
        if (book.entries >= MOST_ENTRIES) {
            return FULL;
        }
        book.append(b, heat);
        return book.entries;
    }

    public int tear() {
        int before = book.entries;
        book.entries = 0;
        return before;
    }

    public int judge() {
        trial.copyFrom(night);
        return book.firstWrong(town, trial);
    }

    public int seed(int v) {
        if (v < 0) {
            return OUTSIDE;
        }
        int before = night.seed;
        night.seed = v;
        return before;
    }

    public int keep(int i) {
        if (!within(i, 0, IMAGES - 1)) {
            return UNKNOWN;
        }
        images[i].copyFrom(night);
        kept |= 1 << i;
        return 1;
    }

    public int goBack(int i) {
        if (!within(i, 0, IMAGES - 1)) {
            return UNKNOWN;
        }
        if ((kept >> i & 1) == 0) {
            return NOT;
        }
        night.copyFrom(images[i]);
        return 1;
    }

    private int giftOf(int q, int minutes) {
        if (town.need[q] == 0) {
            return night.warmth[q];
        }
        return Math.max(0, night.warmth[q] - town.need[q] - minutes * town.frostOn(q, false));
    }

    private static boolean within(int value, int low, int high) {
        return value >= low && value <= high;
    }

    private static int ownedAt(int p, int b) {
        return p * MOST_STONES + b;
    }

    // Rows behind the last stone or person hold 0, so whole rows may be summed.
    private static int sumOf(int[] row) {
        int sum = 0;
        for (int value : row) {
            sum += value;
        }
        return sum;
    }

    /** THE TEXT as it is fed, and the reader that turns it into a town or finds its first fault. */
    private static final class Text {
        private static final int MISPLACED = 1, OUT_OF_BOUNDS = 2, TOO_MANY = 3, ABOVE_SIZE = 4;
        private static final int BLANK = 32;
        private static final int MOST_FIGURES = 4;

        private final byte[] bytes = new byte[MOST_BYTES];
        int length;
        int faultByte = NONE;
        private int fault;
        private int at;
        private int tokenAt;
        private boolean frostTold;
        private boolean fineTold;

        boolean hasRoomFor(int n) {
            return length + n <= MOST_BYTES;
        }

        void append(int n, long more) {
            for (int k = n - 1; k >= 0 && length < MOST_BYTES; k--) {
                bytes[length] = (byte) (more >>> 8 * k);
                length++;
            }
        }

        int readInto(Town told) {
            at = 0;
            fault = 0;
            faultByte = NONE;
            frostTold = false;
            fineTold = false;
            told.clear();
            for (int clauses = 0; clauses < MOST_BYTES && hasMore(); clauses++) {
                readClause(told);
            }
            length = 0;
            return fault;
        }

        private boolean hasMore() {
            skipBlanks();
            return fault == 0 && at < length;
        }

        private void readClause(Town told) {
            readWord();
            if (wordIs("stone")) {
                readStone(told);
            } else if (wordIs("person")) {
                readPerson(told);
            } else if (wordIs("frost")) {
                readFrost(told);
            } else if (wordIs("fine")) {
                readFine(told);
            } else {
                fail(MISPLACED);
            }
        }

        private void readStone(Town told) {
            if (told.stones >= MOST_STONES) {
                fail(TOO_MANY);
                return;
            }
            int size = readNumber(1, LARGEST);
            int part = readNumber(2, 999);
            int heat = readNumber(0, LARGEST);
            if (heat > size) {
                fail(ABOVE_SIZE);
            }
            readEnd();
            if (fault == 0) {
                told.addStone(size, part, heat);
            }
        }

        private void readPerson(Town told) {
            if (told.persons >= MOST_PERSONS) {
                fail(TOO_MANY);
                return;
            }
            int kind = readKind();
            int warmth = readNumber(0, LARGEST);
            int need = readNumber(0, LARGEST);
            readEnd();
            if (fault == 0) {
                told.addPerson(kind, warmth, need);
            }
        }

        private void readFrost(Town told) {
            if (frostTold) {
                fail(TOO_MANY);
                return;
            }
            frostTold = true;
            told.frostStanding = readNumber(0, SMALL);
            told.frostSitting = readNumber(0, SMALL);
            readEnd();
        }

        private void readFine(Town told) {
            if (fineTold) {
                fail(TOO_MANY);
                return;
            }
            fineTold = true;
            told.fine = readNumber(0, SMALL);
            readEnd();
        }

        private int readKind() {
            readWord();
            if (wordIs("plain")) {
                return PLAIN;
            }
            if (wordIs("fat")) {
                return FAT;
            }
            if (wordIs("miser")) {
                return MISER;
            }
            if (wordIs("drain")) {
                return DRAIN;
            }
            if (wordIs("beggar")) {
                return BEGGAR;
            }
            fail(MISPLACED);
            return PLAIN;
        }

        private void readWord() {
            skipBlanks();
            tokenAt = at;
            while (at < length && bytes[at] >= 'a' && bytes[at] <= 'z') {
                at++;
            }
        }

        private boolean wordIs(String word) {
            if (at - tokenAt != word.length()) {
                return false;
            }
            for (int k = 0; k < word.length(); k++) {
                if (bytes[tokenAt + k] != word.charAt(k)) {
                    return false;
                }
            }
            return true;
        }

        // Behind a fault nothing more is read, so that the fault's own token stays the latest.
        private int readNumber(int low, int high) {
            if (fault != 0) {
                return low;
            }
            skipBlanks();
            tokenAt = at;
            int value = 0;
            while (at < length && bytes[at] >= '0' && bytes[at] <= '9') {
                value = 10 * value + bytes[at] - '0';
                at++;
            }
            if (at == tokenAt) {
                fail(MISPLACED);
            } else if (at - tokenAt > MOST_FIGURES || !within(value, low, high)) {
                fail(OUT_OF_BOUNDS);
            }
            return value;
        }

        private void readEnd() {
            if (fault != 0) {
                return;
            }
            skipBlanks();
            tokenAt = at;
            if (at < length && bytes[at] == ';') {
                at++;
            } else {
                fail(MISPLACED);
            }
        }

        private void skipBlanks() {
            while (at < length && bytes[at] == BLANK) {
                at++;
            }
        }

        private void fail(int number) {
            if (fault == 0) {
                fault = number;
                faultByte = tokenAt;
            }
        }
    }

    /** What a text tells: it stays as it is for the whole night. */
    private static final class Town {
        int stones;
        int persons;
        int frostStanding = 3;
        int frostSitting = 1;
        int fine;
        final int[] size = new int[MOST_STONES];
        final int[] part = new int[MOST_STONES];
        final int[] firstHeat = new int[MOST_STONES];
        final int[] kind = new int[MOST_PERSONS];
        final int[] need = new int[MOST_PERSONS];
        final int[] firstWarmth = new int[MOST_PERSONS];

        void clear() {
            stones = 0;
            persons = 0;
            frostStanding = 3;
            frostSitting = 1;
            fine = 0;
        }

        void addStone(int itsSize, int itsPart, int itsHeat) {
            if (stones < MOST_STONES) {
                size[stones] = itsSize;
                part[stones] = itsPart;
                firstHeat[stones] = itsHeat;
                stones++;
            }
        }

        void addPerson(int itsKind, int itsWarmth, int itsNeed) {
            if (persons < MOST_PERSONS) {
                kind[persons] = itsKind;
                firstWarmth[persons] = itsWarmth;
                need[persons] = itsNeed;
                persons++;
            }
        }

        boolean hasStone(int b) {
            return b >= 0 && b < stones;
        }

        boolean hasPerson(int p) {
            return p >= 0 && p < persons;
        }

        int flow(int p, int b, int warmth, int heat) {
            int flow = (warmth - heat) / resistance(kind[p]);
            if (kind[p] == MISER) {
                flow = Math.min(flow, 0);
            }
            if (kind[p] == DRAIN) {
                flow = Math.max(flow, 0);
            }
            return Math.min(flow, size[b] - heat);
        }

        private static int resistance(int itsKind) {
            switch (itsKind) {
                case FAT: return 4;
                case DRAIN: return 2;
                default: return 8;
            }
        }

        int frostOn(int p, boolean sits) {
            if (kind[p] == BEGGAR) {
                return frostStanding / 2;
            }
            return sits ? frostSitting : frostStanding;
        }

        int lossOfEmpty(int b, int heat) {
            if (heat <= 0 || part[b] <= 0) {
                return 0;
            }
            return Math.max(1, heat / part[b]);
        }

        int heatLeft(int b, int heat, int minutes) {
            int left = heat;
            for (int i = 0; i < minutes; i++) {
                left -= lossOfEmpty(b, left);
            }
            return left;
        }
    }

    /** All that changes from minute to minute: just what an image keeps. */
    private static final class Night {
        final int[] heat = new int[MOST_STONES];
        final int[] warmth = new int[MOST_PERSONS];
        final int[] seat = new int[MOST_PERSONS];
        final int[] cold = new int[MOST_PERSONS];
        final int[] stolen = new int[MOST_PERSONS];
        final int[] owed = new int[MOST_PERSONS];
        final int[] owned = new int[MOST_PERSONS * MOST_STONES];
        int lost;
        int minute;
        int seed;

        // THE SEED is no part of what a new town sets back.
        void begin(Town town) {
            for (int b = 0; b < MOST_STONES; b++) {
                heat[b] = b < town.stones ? town.firstHeat[b] : 0;
            }
            for (int p = 0; p < MOST_PERSONS; p++) {
                warmth[p] = p < town.persons ? town.firstWarmth[p] : 0;
                seat[p] = NONE;
                cold[p] = 0;
                stolen[p] = 0;
                owed[p] = 0;
            }
            for (int k = 0; k < owned.length; k++) {
                owned[k] = 0;
            }
            lost = 0;
            minute = 0;
        }

        void copyFrom(Night other) {
            System.arraycopy(other.heat, 0, heat, 0, MOST_STONES);
            System.arraycopy(other.warmth, 0, warmth, 0, MOST_PERSONS);
            System.arraycopy(other.seat, 0, seat, 0, MOST_PERSONS);
            System.arraycopy(other.cold, 0, cold, 0, MOST_PERSONS);
            System.arraycopy(other.stolen, 0, stolen, 0, MOST_PERSONS);
            System.arraycopy(other.owed, 0, owed, 0, MOST_PERSONS);
            System.arraycopy(other.owned, 0, owned, 0, MOST_PERSONS * MOST_STONES);
            lost = other.lost;
            minute = other.minute;
            seed = other.seed;
        }

        // Who is not there stands, so the whole row may be looked through.
        int sitterOn(int b) {
            for (int p = 0; p < MOST_PERSONS; p++) {
                if (seat[p] == b) {
                    return p;
                }
            }
            return NONE;
        }

        int passMinute(Town town) {
            int coldOnes = 0;
            int taken = 0;
            for (int p = 0; p < town.persons; p++) {
                int b = seat[p];
                boolean sits = town.hasStone(b);
                if (sits) {
                    shareHeat(town, p, b);
                    useMinute(p, b);
                    taken |= 1 << b;
                } else {
                    owed[p] += town.fine;
                }
                freeze(p, town.frostOn(p, sits));
                if (warmth[p] < town.need[p]) {
                    cold[p]++;
                    coldOnes |= 1 << p;
                }
            }
            coolEmptyStones(town, taken);
            minute++;
            return coldOnes;
        }

        private void shareHeat(Town town, int p, int b) {
            int flow = town.flow(p, b, warmth[p], heat[b]);
            warmth[p] -= flow;
            heat[b] += flow;
        }

        private void useMinute(int p, int b) {
            int at = ownedAt(p, b);
            if (owned[at] > 0) {
                owned[at]--;
            } else {
                stolen[p]++;
            }
        }

        private void freeze(int p, int frost) {
            int taken = Math.min(frost, warmth[p]);
            warmth[p] -= taken;
            lost += taken;
        }

        private void coolEmptyStones(Town town, int taken) {
            for (int b = 0; b < town.stones; b++) {
                if ((taken >> b & 1) == 0) {
                    int loss = town.lossOfEmpty(b, heat[b]);
                    heat[b] -= loss;
                    lost += loss;
                }
            }
        }

        void moveByDraws(Town town) {
            for (int p = 0; p < town.persons; p++) {
                if (draw(4) == 0) {
                    seat[p] = NONE;
                    int b = draw(town.stones + 1);
                    if (town.hasStone(b) && sitterOn(b) == NONE) {
                        seat[p] = b;
                    }
                }
            }
        }

        private int draw(int n) {
            seed = (int) (seed * 1103515245L + 12345L & 0x7fffffffL);
            return n > 0 ? seed / 65536 % n : 0;
        }
    }

    /** One person on one stone, or standing, apart from all others: what is tried needs no more. */
    private static final class Sitting {
        int warmth;
        int heat;

        void begin(int itsWarmth, int itsHeat) {
            warmth = itsWarmth;
            heat = itsHeat;
        }

        void passMinute(Town town, int p, int b) {
            boolean sits = town.hasStone(b);
            if (sits) {
                int flow = town.flow(p, b, warmth, heat);
                warmth -= flow;
                heat += flow;
            }
            warmth -= Math.min(warmth, town.frostOn(p, sits));
        }
    }

    /**
     * Persons on different stones do not touch each other, so each is tried once on each seat,
     * and the search goes only over the sums.
     */
    private static final class Seating {
        private static final int SEATS = MOST_STONES + 1;

        private final Sitting sitting = new Sitting();
        private final int[] coldOn = new int[MOST_SEATED * SEATS];
        private final int[] warmthOn = new int[MOST_SEATED * SEATS];
        private final int[] chosen = new int[MOST_SEATED];
        private final int[] best = new int[MOST_SEATED];
        private int bestCold;
        private int bestLeast;

        void search(Town town, Night night, int minutes) {
            for (int p = 0; p < town.persons && p < MOST_SEATED; p++) {
                for (int b = NONE; b < town.stones; b++) {
                    trySeat(town, night, minutes, p, b);
                }
            }
            bestCold = MOST_SEATED * MOST_TRIED + 1;
            choose(town, 0, 0, 0, LARGEST);
        }

        int answer(int what) {
            if (what == 0) {
                return bestCold;
            }
            if (what == 1) {
                return bestLeast;
            }
            return within(what - 2, 0, MOST_SEATED - 1) ? best[what - 2] : OUTSIDE;
        }

        private void trySeat(Town town, Night night, int minutes, int p, int b) {
            sitting.begin(night.warmth[p], b == NONE ? 0 : night.heat[b]);
            int cold = 0;
            for (int i = 0; i < minutes; i++) {
                sitting.passMinute(town, p, b);
                if (sitting.warmth < town.need[p]) {
                    cold++;
                }
            }
            coldOn[seatAt(p, b)] = cold;
            warmthOn[seatAt(p, b)] = sitting.warmth;
        }

        private static int seatAt(int p, int b) {
            return p * SEATS + b + 1;
        }

        // Seats are tried in the order of rank, so of like seatings the first stays.
        private void choose(Town town, int p, int taken, int cold, int least) {
            if (p >= town.persons || p >= MOST_SEATED) {
                weigh(cold, least);
                return;
            }
            for (int b = NONE; b < town.stones; b++) {
                int bit = b == NONE ? 0 : 1 << b;
                if ((taken & bit) == 0) {
                    int at = seatAt(p, b);
                    chosen[p] = b;
                    choose(town, p + 1, taken | bit, cold + coldOn[at], Math.min(least, warmthOn[at]));
                }
            }
        }

        private void weigh(int cold, int least) {
            if (cold < bestCold || cold == bestCold && least > bestLeast) {
                bestCold = cold;
                bestLeast = least;
                System.arraycopy(chosen, 0, best, 0, MOST_SEATED);
            }
        }
    }

    /**
     * The orders in which a stone can be passed along. A stone that begins warmer never ends colder (FLOW falls by at
     * most 1 when HEAT rises by 1, so the warmer stone stays ahead, and its person too): with the same persons left, a
     * beginning that leaves no more HEAT than an earlier one cannot end better, and is not followed.
     */
    private static final class Passing {
        private final Sitting sitting = new Sitting();
        private final int[] order = new int[MOST_PASSED];
        private final int[] best = new int[MOST_PASSED];
        private final int[] followed = new int[1 << MOST_PERSONS];
        private int stone;
        private int minutes;
        private int bestHeat;

        void search(Town town, Night night, int b, int set, int minutesEach) {
            stone = b;
            minutes = minutesEach;
            for (int left = 0; left < followed.length; left++) {
                followed[left] = NONE;
            }
            place(town, night, 0, set, night.heat[b]);
        }

        int answer(int what) {
            if (what == 0) {
                return bestHeat;
            }
            return within(what - 1, 0, MOST_PASSED - 1) ? best[what - 1] : OUTSIDE;
        }

        // Persons are tried by their numbers, so of like orders the first stays.
        private void place(Town town, Night night, int turn, int left, int heat) {
            if (left < 0 || left >= followed.length || heat <= followed[left]) {
                return;
            }
            followed[left] = heat;
            if (left == 0 || turn >= MOST_PASSED) {
                keepBest(heat);
                return;
            }
            for (int p = 0; p < town.persons; p++) {
                if ((left >> p & 1) != 0) {
                    order[turn] = p;
                    place(town, night, turn + 1, left & ~(1 << p), heatBehind(town, night, turn, p, heat));
                }
            }
        }

        private int heatBehind(Town town, Night night, int turn, int p, int heat) {
            int lostInWaiting = turn * minutes * town.frostOn(p, false);
            sitting.begin(Math.max(0, night.warmth[p] - lostInWaiting), heat);
            for (int i = 0; i < minutes; i++) {
                sitting.passMinute(town, p, stone);
            }
            return sitting.heat;
        }

        private void keepBest(int heat) {
            bestHeat = heat;
            System.arraycopy(order, 0, best, 0, MOST_PASSED);
        }
    }

    /** THE BOOK of heats. */
    private static final class Book {
        private final int[] stone = new int[MOST_ENTRIES];
        private final int[] heat = new int[MOST_ENTRIES];
        int entries;

        void append(int b, int itsHeat) {
            if (entries < MOST_ENTRIES) {
                stone[entries] = b;
                heat[entries] = itsHeat;
                entries++;
            }
        }

        int firstWrong(Town town, Night trial) {
            for (int j = 0; j < entries; j++) {
                if (!town.hasStone(stone[j]) || trial.heat[stone[j]] != heat[j]) {
                    return j;
                }
                trial.passMinute(town);
            }
            return NONE;
        }
    }
}
