/** Ghosts on a keyboard: which keys a scan tells of, though nobody has touched them. */
public final class StrayKeys {
    public static final int BAD = -1, FULL = -2, FINDING = -3, STATE = -4, SPENT = -6, NONE = -9;

    private static final int NOTHING = 1, BEYOND = 2, UNLIKE = 3, NOUGHT = 4, SIZE = 5;
    private static final int FINDINGS_MOST = 5;

    private static final int ROWS = 6, ROW_MOST = 40, TEXTS = 4, TEXT_MOST = 60;
    private static final int MISSING = -1, BLANK = 32, NOUGHT_SIGN = 48;

    private static final int LINES = 4, COLUMNS = 6, DELAYS = 10;
    private static final int KEYS_LEAST = 2, KEYS_MOST = 7, SETS_MOST = 128;
    private static final int ITEM_SIZE = 4, HELD_MOST = 9;

    private static final int PLAIN = 0, VALVE = 1, SHY = 2, STUCK = 3, TIGHT = 4, WORN = 5;
    private static final int KINDS = 6;
    private static final int[] LETTERS = {107, 118, 115, 117, 116, 119};
    /** The kind that each kind is a sort of; the plain one is a sort of none. */
    private static final int[] SORT_OF = {-1, PLAIN, PLAIN, PLAIN, VALVE, SHY};

    private static final int DEEDS_MOST = 40, KEPT = 3, CURRENT = 3;
    /** Deeds below this number toggle the key of that number. */
    private static final int SCAN_DEED = 7, FIRST_LINE_DEED = 8;

    private static final int LATER_MOST = 20, SCANS_AHEAD = 8, TURNS_MOST = 4, TWELVE = 12;
    private static final int LOTS_MOST = 20, LOTS_FACTOR = 48271, LOTS_MODULUS = 2147483647;
    private static final int KEY_FACTS = 8, COUNTS = 11;
    private static final int EUCLID_STEPS_MOST = 200;

    private final Shelf rows = new Shelf(ROWS, ROW_MOST);
    private final Shelf texts = new Shelf(TEXTS, TEXT_MOST);
    /** The deeds of each kept board and, behind them, of the current one: a board goes on from its deeds. */
    private final Shelf deeds = new Shelf(KEPT + 1, DEEDS_MOST);
    private final Layout keys = new Layout();
    private final Layout guess = new Layout();
    private final Moment now = new Moment();
    private final Moment ahead = new Moment();
    private final Wires wires = new Wires();
    private final int[] bySet = new int[SETS_MOST];
    private final int[][] byKind = new int[KINDS][SETS_MOST];
    private final int[] timesFound = new int[FINDINGS_MOST + 1];
    private int latestFinding = 0;
    private int answer = 0;
    private long above = 0;
    private long below = 1;

    public StrayKeys() {
        deeds.make(CURRENT, 0, 0);
    }

    // ---- 1 rows, texts, boards

    public int row(int r, int n) {
        if (!within(r, ROWS) || n > ROW_MOST) {
            return BAD;
        }
        if (n < 0) {
            return found(SIZE);
        }
        rows.make(r, n, 0);
        return n;
    }

    public int lay(int r, int i, int v) {
        int refusal = refusePlace(rows, r, i);
        if (refusal != 0) {
            return refusal;
        }
        answer = rows.get(r, i);
        rows.set(r, i, v);
        return 1;
    }

    public int at(int r, int i) {
        int refusal = refusePlace(rows, r, i);
        if (refusal != 0) {
            return refusal;
        }
        answer = rows.get(r, i);
        return 1;
    }

    public int tear(int r) {
        int refusal = refuseShelfPlace(rows, r);
        if (refusal != 0) {
            return refusal;
        }
        rows.remove(r);
        return 1;
    }

    public int copy(int r, int i, int to, int j, int n) {
        if (!within(r, ROWS) || !within(to, ROWS)) {
            return BAD;
        }
        if (n < 0) {
            return found(SIZE);
        }
        if (!rows.has(r) || !rows.has(to)) {
            return found(NOTHING);
        }
        if (!rows.reaches(r, i, n) || !rows.reaches(to, j, n)) {
            return found(BEYOND);
        }
        rows.move(r, i, to, j, n);
        return 1;
    }

    public int mean(int r) {
        int refusal = refuseShelfPlace(rows, r);
        if (refusal != 0) {
            return refusal;
        }
        int size = rows.size(r);
        if (size <= 0) {
            return found(NOUGHT);
        }
        answer = (int) (rows.sum(r) / size);
        return 1;
    }

    public int text(int t, int n) {
        if (!within(t, TEXTS) || n > TEXT_MOST) {
            return BAD;
        }
        if (n < 0) {
            return found(SIZE);
        }
        texts.make(t, n, BLANK);
        return n;
    }

    public int put(int t, int i, int v) {
        int refusal = refusePlace(texts, t, i);
        if (refusal != 0) {
            return refusal;
        }
        int was = texts.get(t, i);
        texts.set(t, i, (byte) v);
        return was + 1000;
    }

    public int fault(int t) {
        int refusal = refuseShelfPlace(texts, t);
        if (refusal != 0) {
            return refusal;
        }
        return guess.readFrom(texts, t);
    }

    public int board(int t) {
        int refusal = refuseShelfPlace(texts, t);
        if (refusal != 0) {
            return refusal;
        }
        if (guess.readFrom(texts, t) != NONE) {
            return STATE;
        }
        keys.copyFrom(guess);
        now.reset();
        for (int k = 0; k < KEPT; k++) {
            deeds.remove(k);
        }
        deeds.make(CURRENT, 0, 0);
        return keys.size;
    }

    public int key(int i, int what) {
        if (!keys.has(i) || !within(what, KEY_FACTS)) {
            return BAD;
        }
        answer = keyFact(i, what);
        return 1;
    }

    public int mark(int i, int kind) {
        if (!keys.has(i) || kind <= PLAIN || kind >= KINDS) {
            return BAD;
        }
        if (!isOf(keys.kindOf(i), kind)) {
            return found(UNLIKE);
        }
        switch (kind) {
            case VALVE:
                return 10 + toldWerePlain(i) - Integer.bitCount(toldNow());
            case SHY:
                return scansConducting(i, keys.kindOf(i));
            case STUCK:
                return 10 + Integer.bitCount(toldNow()) - toldWerePlain(i);
            case TIGHT:
                return Math.max(0, keys.delayOf(i) - now.heldFor(i));
            default:
                return scansConducting(i, SHY) - scansConducting(i, WORN);
        }
    }

    public int reads(int l) {
        if (!within(l, LINES)) {
            return BAD;
        }
        wires.attach(keys, now);
        return wires.columnsReadBy(l, now.pressed);
    }

    // ---- 2 deeds

    public int press(int i) {
        if (!keys.has(i)) {
            return BAD;
        }
        if (hasNoRoomFor(1)) {
            return FULL;
        }
        perform(i);
        return Integer.bitCount(now.pressed);
    }

    public int scan() {
        if (keys.size == 0) {
            return STATE;
        }
        if (hasNoRoomFor(1)) {
            return FULL;
        }
        int toldInIt = Integer.bitCount(toldNow());
        perform(SCAN_DEED);
        return toldInIt;
    }

    public int cut(int l) {
        if (!within(l, LINES)) {
            return BAD;
        }
        if (keys.size == 0) {
            return STATE;
        }
        if (hasNoRoomFor(1)) {
            return FULL;
        }
        perform(FIRST_LINE_DEED + l);
        return Integer.bitCount(now.severed);
    }

    public int undo(int n) {
        int size = deeds.size(CURRENT);
        if (n < 0 || n > size) {
            return BAD;
        }
        deeds.shorten(CURRENT, n);
        replay();
        return size - n;
    }

    public int keep(int k) {
        if (!within(k, KEPT)) {
            return BAD;
        }
        if (keys.size == 0) {
            return STATE;
        }
        deeds.moveAll(CURRENT, k);
        return deeds.size(k);
    }

    public int on(int k) {
        if (!within(k, KEPT)) {
            return BAD;
        }
        if (!deeds.has(k)) {
            return found(NOTHING);
        }
        deeds.moveAll(k, CURRENT);
        replay();
        return deeds.size(CURRENT);
    }

    // ---- 3 what is told (aside)

    public int told() {
        int set = toldNow();
        answer = Integer.bitCount(set & ~now.pressed);
        return set;
    }

    public int ghosts() {
        int set = toldNow();
        answer = now.pressed & ~set;
        return set & ~now.pressed;
    }

    public int later(int n) {
        if (n < 0 || n > LATER_MOST) {
            return BAD;
        }
        if (keys.size == 0) {
            return STATE;
        }
        ahead.copyFrom(now);
        int last = toldAt(ahead);
        bySet[0] = last;
        int different = 1;
        for (int s = 0; s < n; s++) {
            ahead.passScan();
            last = toldAt(ahead);
            if (different < SETS_MOST && !isAmongFirst(different, last)) {
                bySet[different] = last;
                different++;
            }
        }
        answer = different;
        return last;
    }

    public int would(int set) {
        if (!within(set, keys.sets())) {
            return BAD;
        }
        if (keys.size == 0) {
            return STATE;
        }
        wires.attach(keys, now);
        return wires.toldOf(set);
    }

    // ---- 4 sets (aside: as by would())

    public int haunts(int i) {
        if (!keys.has(i)) {
            return BAD;
        }
        int sets = keys.sets();
        int fewest = KEYS_MOST + 1;
        int least = NONE;
        wires.attach(keys, now);
        for (int set = 0; set < sets; set++) {
            int size = Integer.bitCount(set);
            if (!holds(set, i) && size < fewest && holds(wires.toldOf(set), i)) {
                fewest = size;
                least = set;
            }
        }
        if (least != NONE) {
            answer = fewest;
        }
        return least;
    }

    public int right() {
        if (keys.size == 0) {
            return STATE;
        }
        fillBySet();
        int sets = keys.sets();
        int rightSets = 0;
        int fewestWrong = keys.size + 1;
        for (int set = 0; set < sets; set++) {
            if (bySet[set] == set) {
                rightSets++;
            } else {
                fewestWrong = Math.min(fewestWrong, Integer.bitCount(set));
            }
        }
        answer = fewestWrong - 1;
        return rightSets;
    }

    public int alike() {
        if (keys.size == 0) {
            return STATE;
        }
        fillBySet();
        int sets = keys.sets();
        int wanted = toldNow();
        int least = NONE;
        int many = 0;
        for (int set = 0; set < sets; set++) {
            if (bySet[set] == wanted) {
                least = least == NONE ? set : least;
                many++;
            }
        }
        answer = least;
        return many;
    }

    public int best() {
        if (keys.size == 0) {
            return STATE;
        }
        int most = rightSetsOf(keys);
        int first = NONE;
        for (int i = 0; i < keys.size; i++) {
            guess.copyFrom(keys);
            guess.turnInto(i, VALVE);
            int many = rightSetsOf(guess);
            if (many > most) {
                most = many;
                first = i;
            }
        }
        if (first != NONE) {
            answer = most;
        }
        return first;
    }

    // ---- 5 which key it is

    public int kinds(int i, int r) {
        int refusal = refusePairs(i, r);
        return refusal != 0 ? refusal : kindsThatFit(i, r);
    }

    public int places(int i, int r) {
        int refusal = refusePairs(i, r);
        if (refusal != 0) {
            return refusal;
        }
        int many = 0;
        int first = NONE;
        guess.copyFrom(keys);
        for (int line = 0; line < LINES; line++) {
            for (int column = 0; column < COLUMNS; column++) {
                int sitting = keys.keyAt(line, column);
                guess.seat(i, line, column);
                if ((sitting == NONE || sitting == i) && fits(guess, r)) {
                    first = first == NONE ? 10 * line + column : first;
                    many++;
                }
            }
        }
        if (many == 0) {
            return NONE;
        }
        answer = first;
        return many;
    }

    public int test(int i, int r) {
        int refusal = refusePairs(i, r);
        if (refusal != 0) {
            return refusal;
        }
        int fitting = kindsThatFit(i, r);
        if (fitting == 0) {
            return NONE;
        }
        fillByKind(i, fitting);
        int sets = keys.sets();
        int least = KINDS + 1;
        int first = 0;
        for (int set = 0; set < sets; set++) {
            int part = greatestPart(fitting, set);
            if (part < least) {
                least = part;
                first = set;
            }
        }
        answer = least;
        return first;
    }

    // ---- 6 by turns

    public int duel(int n) {
        if (n < 0 || n > TURNS_MOST) {
            return BAD;
        }
        if (keys.size == 0) {
            return STATE;
        }
        fillBySet();
        int sets = keys.sets();
        for (int set = 0; set < sets; set++) {
            bySet[set] = ghostsOf(set);
        }
        for (int turn = n - 1; turn >= 0; turn--) {
            takeBackTurn(turn % 2 == 0);
        }
        return valueOf(now.pressed);
    }

    // ---- 7 chances, lots

    public int odds(int p) {
        int refusal = refuseChance(p);
        if (refusal != 0) {
            return refusal;
        }
        fillBySet();
        int sets = keys.sets();
        long sum = 0;
        for (int set = 0; set < sets; set++) {
            if (bySet[set] == set) {
                sum += weight(set, p);
            }
        }
        tellFraction(sum, power(TWELVE, keys.size));
        return 1;
    }

    public int mid(int p) {
        int refusal = refuseChance(p);
        if (refusal != 0) {
            return refusal;
        }
        fillBySet();
        int sets = keys.sets();
        long sum = 0;
        for (int set = 0; set < sets; set++) {
            sum += ghostsOf(set) * weight(set, p);
        }
        tellFraction(sum, power(TWELVE, keys.size));
        return 1;
    }

    public int lots(int n, int seed) {
        if (n < 1 || n > LOTS_MOST || seed < 1 || seed >= LOTS_MODULUS) {
            return BAD;
        }
        if (keys.size == 0) {
            return STATE;
        }
        if (hasNoRoomFor(n)) {
            return FULL;
        }
        long number = seed;
        for (int d = 0; d < n; d++) {
            number = number * LOTS_FACTOR % LOTS_MODULUS;
            perform(deedByLot(number));
        }
        return Integer.bitCount(toldNow());
    }

    // ---- 8 what is told

    public int asked() {
        return answer;
    }

    public long upper() {
        return above;
    }

    public long lower() {
        return below;
    }

    public int count(int what) {
        if (!within(what, COUNTS)) {
            return BAD;
        }
        switch (what) {
            case 0:
                return keys.size;
            case 1:
                return now.scanNumber;
            case 2:
                return deeds.size(CURRENT);
            case 3:
                return now.pressed;
            case 4:
                return now.severed;
            case 5:
                return Integer.bitCount(toldNow());
            case 6:
                return rows.howMany(ROWS);
            case 7:
                return texts.howMany(TEXTS);
            case 8:
                return deeds.howMany(KEPT);
            case 9:
                return keys.howManyOf(VALVE);
            default:
                return keys.howManyOf(SHY);
        }
    }

    public int finding() {
        return latestFinding;
    }

    public int findings(int f) {
        if (f < 1 || f > FINDINGS_MOST) {
            return BAD;
        }
        return timesFound[f];
    }

    public long digest() {
        long h = 17;
        for (int what = 0; what < COUNTS; what++) {
            h = 31 * h + count(what);
        }
        for (int i = 0; i < keys.size; i++) {
            for (int what = 0; what < KEY_FACTS; what++) {
                h = 31 * h + keyFact(i, what);
            }
        }
        for (int k = 0; k < KEPT; k++) {
            h = 31 * h + deeds.size(k);
        }
        return texts.mixInto(rows.mixInto(h));
    }

    // ---- refusals

    private static boolean within(int v, int end) {
        return v >= 0 && v < end;
    }

    private int found(int f) {
        latestFinding = f;
        if (within(f, FINDINGS_MOST + 1)) {
            timesFound[f]++;
        }
        return FINDING;
    }

    /** 0 if the shelf has something at p. */
    private int refuseShelfPlace(Shelf shelf, int p) {
        if (!within(p, shelf.places)) {
            return BAD;
        }
        return shelf.has(p) ? 0 : found(NOTHING);
    }

    /** 0 if the shelf has a place i at p. */
    private int refusePlace(Shelf shelf, int p, int i) {
        int refusal = refuseShelfPlace(shelf, p);
        if (refusal != 0) {
            return refusal;
        }
        return within(i, shelf.size(p)) ? 0 : found(BEYOND);
    }

    /** 0 if there is a key i, and row r holds pairs of sets of keys. */
    private int refusePairs(int i, int r) {
        if (!keys.has(i)) {
            return BAD;
        }
        int refusal = refuseShelfPlace(rows, r);
        if (refusal != 0) {
            return refusal;
        }
        int size = rows.size(r);
        if (size % 2 != 0) {
            return found(SIZE);
        }
        for (int p = 0; p < size; p++) {
            if (!within(rows.get(r, p), keys.sets())) {
                return found(UNLIKE);
            }
        }
        return 0;
    }

    /** 0 if p of 12 is a chance, and there are keys. */
    private int refuseChance(int p) {
        if (p < 0 || p > TWELVE) {
            return BAD;
        }
        return keys.size == 0 ? STATE : 0;
    }

    private boolean hasNoRoomFor(int n) {
        return deeds.size(CURRENT) + n > DEEDS_MOST;
    }

    // ---- deeds

    private void perform(int deed) {
        deeds.add(CURRENT, deed);
        now.undergo(deed);
    }

    private void replay() {
        now.reset();
        int size = deeds.size(CURRENT);
        for (int d = 0; d < size; d++) {
            now.undergo(deeds.get(CURRENT, d));
        }
    }

    private int deedByLot(long number) {
        int sort = (int) (number % 8);
        long rest = number / 8;
        if (sort == 0) {
            return FIRST_LINE_DEED + (int) (rest % LINES);
        }
        if (sort <= 3 || keys.size == 0) {
            return SCAN_DEED;
        }
        return (int) (rest % keys.size);
    }

    // ---- what is told

    private static boolean holds(int set, int i) {
        return ((set >> i) & 1) != 0;
    }

    private static boolean isOf(int kind, int other) {
        return kind == other || (within(kind, KINDS) && SORT_OF[kind] == other);
    }

    private int toldNow() {
        return toldAt(now);
    }

    private int toldAt(Moment moment) {
        wires.attach(keys, moment);
        return wires.toldOf(moment.pressed);
    }

    private int keyFact(int i, int what) {
        switch (what) {
            case 0:
                return keys.kindOf(i);
            case 1:
                return keys.lineOf(i);
            case 2:
                return keys.columnOf(i);
            case 3:
                return keys.delayOf(i);
            case 4:
                return (now.pressed >> i) & 1;
            case 5:
                return now.heldFor(i);
            case 6:
                return keys.conducts(i, now, now.pressed) ? 1 : 0;
            default:
                return (toldNow() >> i) & 1;
        }
    }

    /** How many keys would be told now, were key i a plain one. */
    private int toldWerePlain(int i) {
        guess.copyFrom(keys);
        guess.turnInto(i, PLAIN);
        wires.attach(guess, now);
        return Integer.bitCount(wires.toldOf(now.pressed));
    }

    /** In how many scans from now on key i, pressed and of a kind, would conduct. */
    private int scansConducting(int i, int kind) {
        guess.copyFrom(keys);
        guess.turnInto(i, kind);
        ahead.copyFrom(now);
        int many = 0;
        for (int s = 0; s < SCANS_AHEAD; s++) {
            if (guess.conducts(i, ahead, 1 << i)) {
                many++;
            }
            ahead.passScan();
        }
        return many;
    }

    private boolean isAmongFirst(int many, int set) {
        for (int d = 0; d < many && d < SETS_MOST; d++) {
            if (bySet[d] == set) {
                return true;
            }
        }
        return false;
    }

    // ---- sets

    private void fillBySet() {
        wires.attach(keys, now);
        int sets = keys.sets();
        for (int set = 0; set < sets; set++) {
            bySet[set] = wires.toldOf(set);
        }
    }

    private int rightSetsOf(Layout layout) {
        wires.attach(layout, now);
        int many = 0;
        int sets = layout.sets();
        for (int set = 0; set < sets; set++) {
            if (wires.toldOf(set) == set) {
                many++;
            }
        }
        return many;
    }

    /** What stands in the table by sets for one of them. */
    private int valueOf(int set) {
        return within(set, SETS_MOST) ? bySet[set] : 0;
    }

    /** How many ghosts there are by a set; the table by sets has what is told. */
    private int ghostsOf(int set) {
        return Integer.bitCount(valueOf(set) & ~set);
    }

    private boolean fits(Layout layout, int r) {
        wires.attach(layout, now);
        int size = rows.size(r);
        for (int p = 0; p + 1 < size; p += 2) {
            if (wires.toldOf(rows.get(r, p)) != rows.get(r, p + 1)) {
                return false;
            }
        }
        return true;
    }

    private int kindsThatFit(int i, int r) {
        guess.copyFrom(keys);
        int fitting = 0;
        for (int kind = 0; kind < KINDS; kind++) {
            guess.turnInto(i, kind);
            if (fits(guess, r)) {
                fitting |= 1 << kind;
            }
        }
        return fitting;
    }

    /** Fills the table by kinds and sets with what is told, were key i of these kinds. */
    private void fillByKind(int i, int fitting) {
        guess.copyFrom(keys);
        int sets = keys.sets();
        for (int kind = 0; kind < KINDS; kind++) {
            if (holds(fitting, kind)) {
                guess.turnInto(i, kind);
                wires.attach(guess, now);
                for (int set = 0; set < sets; set++) {
                    byKind[kind][set] = wires.toldOf(set);
                }
            }
        }
    }

    /** How many of these kinds, at most, a set does not tell apart. */
    private int greatestPart(int fitting, int set) {
        int greatest = 0;
        for (int kind = 0; kind < KINDS; kind++) {
            int part = 0;
            for (int other = 0; other < KINDS; other++) {
                if (holds(fitting, kind) && holds(fitting, other) && byKind[other][set] == byKind[kind][set]) {
                    part++;
                }
            }
            greatest = Math.max(greatest, part);
        }
        return greatest;
    }

    /** From what each set is worth behind a turn to what it is worth ahead of it. */
    private void takeBackTurn(boolean wantsMany) {
        int sets = keys.sets();
        // Sets rise, and a turn only leads to greater ones: these still hold what they are worth behind it.
        for (int set = 0; set < sets; set++) {
            int worth = bySet[set];
            for (int i = 0; i < keys.size; i++) {
                int next = valueOf(set | (1 << i));
                boolean better = wantsMany ? next > worth : next < worth;
                worth = better ? next : worth;
            }
            bySet[set] = worth;
        }
    }

    // ---- chances

    private static long power(long base, int times) {
        long product = 1;
        for (int k = 0; k < times; k++) {
            product *= base;
        }
        return product;
    }

    /** How many of 12 ways for each key, all together, press just this set. */
    private long weight(int set, int p) {
        int size = Integer.bitCount(set);
        return power(p, size) * power(TWELVE - p, keys.size - size);
    }

    private void tellFraction(long upperNumber, long lowerNumber) {
        long divisor = lowerNumber;
        long rest = upperNumber;
        for (int step = 0; step < EUCLID_STEPS_MOST && rest != 0; step++) {
            long next = divisor % rest;
            divisor = rest;
            rest = next;
        }
        if (divisor != 0) {
            above = upperNumber / divisor;
            below = lowerNumber / divisor;
        }
    }

    /** Rows of numbers, each missing or with a size of its own, in room that is made once. */
    private static final class Shelf {
        private final int places;
        private final int most;
        private final int[] sizes;
        private final int[] cells;

        Shelf(int places, int most) {
            this.places = Math.max(0, places);
            this.most = Math.max(0, most);
            sizes = new int[this.places];
            cells = new int[this.places * this.most];
            for (int p = 0; p < this.places; p++) {
                sizes[p] = MISSING;
            }
        }

        int size(int p) {
            return within(p, places) ? sizes[p] : MISSING;
        }

        boolean has(int p) {
            return size(p) != MISSING;
        }

        int howMany(int firstPlaces) {
            int many = 0;
            for (int p = 0; p < firstPlaces; p++) {
                if (has(p)) {
                    many++;
                }
            }
            return many;
        }

        int get(int p, int i) {
            return within(i, size(p)) ? cells[p * most + i] : 0;
        }

        void set(int p, int i, int v) {
            if (within(i, size(p))) {
                cells[p * most + i] = v;
            }
        }

        void make(int p, int n, int v) {
            if (within(p, places) && n >= 0 && n <= most) {
                sizes[p] = n;
                for (int i = 0; i < n; i++) {
                    cells[p * most + i] = v;
                }
            }
        }

        void remove(int p) {
            if (within(p, places)) {
                sizes[p] = MISSING;
            }
        }

        void add(int p, int v) {
            int size = size(p);
            if (within(size, most)) {
                sizes[p] = size + 1;
                cells[p * most + size] = v;
            }
        }

        void shorten(int p, int n) {
            if (n >= 0 && n <= size(p)) {
                sizes[p] = n;
            }
        }

        /** Whether there are n places from i on. */
        boolean reaches(int p, int i, int n) {
            return i >= 0 && n >= 0 && n <= size(p) - i;
        }

        void move(int p, int i, int to, int j, int n) {
            if (reaches(p, i, n) && reaches(to, j, n)) {
                System.arraycopy(cells, p * most + i, cells, to * most + j, n);
            }
        }

        void moveAll(int p, int to) {
            make(to, size(p), 0);
            move(p, 0, to, 0, size(p));
        }

        long sum(int p) {
            long sum = 0;
            int size = size(p);
            for (int i = 0; i < size; i++) {
                sum += get(p, i);
            }
            return sum;
        }

        long mixInto(long digest) {
            long h = digest;
            for (int p = 0; p < places; p++) {
                int size = size(p);
                h = 31 * h + size;
                for (int i = 0; i < size; i++) {
                    h = 31 * h + get(p, i);
                }
            }
            return h;
        }
    }

    /** The keys of a board: of which kind each is, and where it sits. */
    private static final class Layout {
        private final int[] kind = new int[KEYS_MOST];
        private final int[] line = new int[KEYS_MOST];
        private final int[] column = new int[KEYS_MOST];
        private final int[] delay = new int[KEYS_MOST];
        private int size = 0;

        boolean has(int i) {
            return i >= 0 && i < size && i < KEYS_MOST;
        }

        int sets() {
            return Math.min(SETS_MOST, 1 << size);
        }

        int kindOf(int i) {
            return has(i) ? kind[i] : PLAIN;
        }

        int lineOf(int i) {
            return has(i) ? line[i] : 0;
        }

        int columnOf(int i) {
            return has(i) ? column[i] : 0;
        }

        int delayOf(int i) {
            return has(i) ? delay[i] : 0;
        }

        int keyAt(int wantedLine, int wantedColumn) {
            for (int i = 0; i < size && i < KEYS_MOST; i++) {
                if (line[i] == wantedLine && column[i] == wantedColumn) {
                    return i;
                }
            }
            return NONE;
        }

        int howManyOf(int wanted) {
            int many = 0;
            for (int i = 0; i < size && i < KEYS_MOST; i++) {
                if (isOf(kind[i], wanted)) {
                    many++;
                }
            }
            return many;
        }

        void turnInto(int i, int newKind) {
            if (has(i)) {
                kind[i] = newKind;
            }
        }

        void seat(int i, int newLine, int newColumn) {
            if (has(i)) {
                line[i] = newLine;
                column[i] = newColumn;
            }
        }

        void copyFrom(Layout other) {
            size = other.size;
            for (int i = 0; i < KEYS_MOST; i++) {
                kind[i] = other.kind[i];
                line[i] = other.line[i];
                column[i] = other.column[i];
                delay[i] = other.delay[i];
            }
        }

        /** Whether a key conducts, if just a set is pressed. A cut line does not matter for this. */
        boolean conducts(int i, Moment moment, int set) {
            if (!has(i)) {
                return false;
            }
            if (kind[i] == STUCK || !holds(set, i)) {
                return kind[i] == STUCK;
            }
            if (kind[i] == TIGHT) {
                return moment.heldFor(i) >= delay[i];
            }
            boolean even = moment.scanNumber % 2 == 0;
            if (kind[i] == WORN) {
                int every = delay[i] + 1;
                return even && every > 0 && moment.scanNumber % every == 0;
            }
            return even || kind[i] != SHY;
        }

        /** Takes the keys of a text; the place of its fault, or NONE. */
        int readFrom(Shelf texts, int t) {
            size = 0;
            int end = texts.size(t);
            int place = behindBlanks(texts, t, 0);
            for (int k = 0; k < KEYS_MOST && place < end; k++) {
                int signs = rightSigns(texts, t, place);
                if (signs < ITEM_SIZE) {
                    return place + signs;
                }
                size++;
                place = behindBlanks(texts, t, place + ITEM_SIZE);
            }
            if (place < end) {
                return place;
            }
            return size < KEYS_LEAST ? end : NONE;
        }

        private static int behindBlanks(Shelf texts, int t, int from) {
            int end = texts.size(t);
            for (int place = from; place < end; place++) {
                if (texts.get(t, place) != BLANK) {
                    return place;
                }
            }
            return end;
        }

        /** How many signs of the item at a place are right; if all are, it is laid behind the last key. */
        private int rightSigns(Shelf texts, int t, int place) {
            int newKind = kindOfLetter(texts.get(t, place));
            if (newKind == NONE || size >= KEYS_MOST) {
                return 0;
            }
            int newLine = figure(texts.get(t, place + 1), LINES);
            if (newLine == NONE) {
                return 1;
            }
            int newColumn = figure(texts.get(t, place + 2), COLUMNS);
            if (newColumn == NONE || keyAt(newLine, newColumn) != NONE) {
                return 2;
            }
            int newDelay = figure(texts.get(t, place + 3), DELAYS);
            if (newDelay == NONE) {
                return 3;
            }
            kind[size] = newKind;
            line[size] = newLine;
            column[size] = newColumn;
            delay[size] = newDelay;
            return ITEM_SIZE;
        }

        private static int kindOfLetter(int letter) {
            for (int k = 0; k < KINDS; k++) {
                if (LETTERS[k] == letter) {
                    return k;
                }
            }
            return NONE;
        }

        private static int figure(int sign, int end) {
            return within(sign - NOUGHT_SIGN, end) ? sign - NOUGHT_SIGN : NONE;
        }
    }

    /** What deeds have led to. */
    private static final class Moment {
        private final int[] held = new int[KEYS_MOST];
        private int scanNumber = 0;
        private int pressed = 0;
        private int severed = 0;

        int heldFor(int i) {
            return i >= 0 && i < KEYS_MOST ? held[i] : 0;
        }

        void reset() {
            scanNumber = 0;
            pressed = 0;
            severed = 0;
            for (int i = 0; i < KEYS_MOST; i++) {
                held[i] = 0;
            }
        }

        void copyFrom(Moment other) {
            scanNumber = other.scanNumber;
            pressed = other.pressed;
            severed = other.severed;
            for (int i = 0; i < KEYS_MOST; i++) {
                held[i] = other.held[i];
            }
        }

        void undergo(int deed) {
            if (deed == SCAN_DEED) {
                passScan();
            } else if (within(deed - FIRST_LINE_DEED, LINES)) {
                severed ^= 1 << (deed - FIRST_LINE_DEED);
            } else if (within(deed, KEYS_MOST)) {
                pressed ^= 1 << deed;
                held[deed] = 0;
            }
        }

        void passScan() {
            scanNumber++;
            for (int i = 0; i < KEYS_MOST; i++) {
                if (holds(pressed, i)) {
                    held[i] = Math.min(HELD_MOST, held[i] + 1);
                }
            }
        }
    }

    /** The ways a current can go: attached to keys at a moment, asked for one set of pressed keys after the other. */
    private static final class Wires {
        private final int[] line = new int[KEYS_MOST];
        private final int[] columnBit = new int[KEYS_MOST];
        /** Of each line the columns to which its keys let current through, and those from which they do. */
        private final int[] forth = new int[LINES];
        private final int[] back = new int[LINES];
        private final int[] comesOut = new int[LINES];
        private int size = 0;
        /** Keys that let current through once they are pressed, those that always do, those that let none back. */
        private int ready = 0;
        private int always = 0;
        private int oneWay = 0;

        void attach(Layout layout, Moment moment) {
            size = layout.size;
            ready = 0;
            always = 0;
            oneWay = 0;
            for (int i = 0; i < size && i < KEYS_MOST; i++) {
                int bit = 1 << i;
                line[i] = layout.line[i];
                columnBit[i] = 1 << layout.column[i];
                boolean whole = !holds(moment.severed, line[i]);
                ready |= whole && layout.conducts(i, moment, bit) ? bit : 0;
                always |= whole && layout.conducts(i, moment, 0) ? bit : 0;
                oneWay |= isOf(layout.kind[i], VALVE) ? bit : 0;
            }
        }

        private void connect(int set) {
            int live = (set & ready) | always;
            for (int l = 0; l < LINES; l++) {
                forth[l] = 0;
                back[l] = 0;
            }
            for (int i = 0; i < size && i < KEYS_MOST; i++) {
                int l = line[i];
                if (((live >> i) & 1) != 0 && l >= 0 && l < LINES) {
                    forth[l] |= columnBit[i];
                    back[l] |= ((oneWay >> i) & 1) != 0 ? 0 : columnBit[i];
                }
            }
        }

        /** The columns on which a current comes out that begins at a line. */
        private int columnsFrom(int start) {
            if (!within(start, LINES)) {
                return 0;
            }
            int columns = forth[start];
            int lines = 1 << start;
            int before = 0;
            // Each round but the last comes to one more line at least.
            for (int round = 0; round < LINES && columns != 0 && lines != before; round++) {
                before = lines;
                for (int l = 0; l < LINES; l++) {
                    if (((lines >> l) & 1) == 0 && (back[l] & columns) != 0) {
                        lines |= 1 << l;
                        columns |= forth[l];
                    }
                }
            }
            return columns;
        }

        /** The columns that a line reads, if just a set is pressed. */
        int columnsReadBy(int l, int set) {
            connect(set);
            return columnsFrom(l);
        }

        /** The keys that are told, if just a set is pressed. */
        int toldOf(int set) {
            connect(set);
            for (int l = 0; l < LINES; l++) {
                comesOut[l] = columnsFrom(l);
            }
            int toldKeys = 0;
            for (int i = 0; i < size && i < KEYS_MOST; i++) {
                int l = line[i];
                if (l >= 0 && l < LINES && (comesOut[l] & columnBit[i]) != 0) {
                    toldKeys |= 1 << i;
                }
            }
            return toldKeys;
        }
    }
}
