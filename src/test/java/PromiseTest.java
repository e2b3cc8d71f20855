/** Each promise of the document, by answers worked out by hand. */
public final class PromiseTest {
    private static final int BAD = -1, FULL = -2, STATE = -4, NONE = -9;
    private static final int NOTHING = 1, BEYOND = 2, UNLIKE = 3, NOUGHT = 4, SIZE = 5;
    private static final int MIN = Integer.MIN_VALUE, MAX = Integer.MAX_VALUE;
    /** Four keys at the corners of a square: any three make a ghost of the fourth. */
    private static final String SQUARE = "k000 k010 k100 k110";
    private static final Checks c = new Checks("PromiseTest");

    public static void main(String[] args) {
        rowsAndTexts();
        faults();
        boardsAndKeys();
        kindsConduct();
        marks();
        deeds();
        kept();
        whatIsTold();
        sets();
        whichKey();
        turns();
        chances();
        lots();
        asked();
        counts();
        findings();
        digest();
        c.end();
    }

    private static void rowsAndTexts() {
        newObject();
        row();
        layAndAt();
        tear();
        copy();
        mean();
        text();
        put();
    }

    private static void newObject() { // 1
        StrayKeys x = new StrayKeys();
        for (int what = 0; what < 11; what++) {
            c.due("new count " + what, x.count(what), 0);
        }
        c.due("new asked", x.asked(), 0);
        c.due("new upper", x.upper(), 0);
        c.due("new lower", x.lower(), 1);
        c.due("new finding", x.finding(), 0);
        for (int f = 1; f < 6; f++) {
            c.due("new findings " + f, x.findings(f), 0);
        }
        for (int l = 0; l < 4; l++) {
            c.due("new reads " + l, x.reads(l), 0);
        }
        c.found(x, "new row", x.at(0, 0), NOTHING);
        c.found(x, "new text", x.put(0, 0, 1), NOTHING);
        c.found(x, "new kept", x.on(0), NOTHING);
    }

    private static void row() { // 2
        StrayKeys x = new StrayKeys();
        c.due("row 0", x.row(0, 0), 0);
        c.due("row 40", x.row(5, 40), 40);
        c.due("row 41", x.row(0, 41), BAD);
        c.due("row max", x.row(0, MAX), BAD);
        c.due("row r -1", x.row(-1, 1), BAD);
        c.due("row r 6", x.row(6, 1), BAD);
        c.due("row bad ahead of size", x.row(6, -1), BAD);
        c.found(x, "row below", x.row(0, -1), SIZE);
        c.found(x, "row min", x.row(0, MIN), SIZE);
        c.due("rows there", x.count(6), 2);
        x.lay(5, 39, 8);
        c.due("row anew", x.row(5, 40), 40);
        c.told(x, "row anew is 0", x.at(5, 39), 1, 0);
        c.due("refused row leaves it", x.row(5, -1), StrayKeys.FINDING);
        c.told(x, "refused row left it", x.at(5, 39), 1, 0);
        x.lay(5, 2, 7);
        x.row(5, 2);
        x.row(5, 3);
        c.told(x, "row longer again is 0", x.at(5, 2), 1, 0);
    }

    private static void layAndAt() { // 3, 4
        StrayKeys x = new StrayKeys();
        c.found(x, "lay nothing", x.lay(0, 0, 1), NOTHING);
        c.found(x, "at nothing", x.at(5, 0), NOTHING);
        x.row(0, 2);
        x.row(1, 2);
        c.told(x, "lay first", x.lay(0, 1, MIN), 1, 0);
        c.told(x, "lay again", x.lay(0, 1, MAX), 1, MIN);
        c.told(x, "at", x.at(0, 1), 1, MAX);
        c.told(x, "at neighbour", x.at(0, 0), 1, 0);
        c.told(x, "at other row", x.at(1, 1), 1, 0);
        c.due("lay r -1", x.lay(-1, 0, 0), BAD);
        c.due("lay r 6", x.lay(6, 0, 0), BAD);
        c.due("at r -1", x.at(-1, 0), BAD);
        c.due("at r 6", x.at(6, 9), BAD);
        c.found(x, "lay beyond", x.lay(0, 2, 0), BEYOND);
        c.found(x, "lay below", x.lay(0, -1, 0), BEYOND);
        c.found(x, "at beyond", x.at(0, 2), BEYOND);
        c.found(x, "at max", x.at(0, MAX), BEYOND);
        c.found(x, "at below", x.at(0, MIN), BEYOND);
        c.told(x, "at still", x.at(0, 1), 1, MAX);
    }

    private static void tear() { // 5
        StrayKeys x = new StrayKeys();
        c.due("tear -1", x.tear(-1), BAD);
        c.due("tear 6", x.tear(6), BAD);
        c.found(x, "tear nothing", x.tear(0), NOTHING);
        x.row(0, 0);
        x.row(5, 3);
        c.due("tear empty", x.tear(0), 1);
        c.due("tear", x.tear(5), 1);
        c.found(x, "torn", x.at(5, 0), NOTHING);
        c.found(x, "tear twice", x.tear(5), NOTHING);
        c.due("rows left", x.count(6), 0);
    }

    private static void copy() { // 6
        StrayKeys x = new StrayKeys();
        Checks.layRow(x, 0, 1, 2, 3, 4, 5);
        Checks.layRow(x, 1, 9, 9);
        c.due("copy over", x.copy(0, 3, 1, 0, 2), 1);
        isRow(x, 1, 4, 5);
        c.due("copy itself up", x.copy(0, 0, 0, 1, 4), 1);
        isRow(x, 0, 1, 1, 2, 3, 4);
        c.due("copy itself down", x.copy(0, 1, 0, 0, 4), 1);
        isRow(x, 0, 1, 2, 3, 4, 4);
        c.due("copy none at the end", x.copy(0, 5, 1, 2, 0), 1);
        c.found(x, "copy none beyond", x.copy(0, 6, 1, 0, 0), BEYOND);
        c.found(x, "copy none beyond to", x.copy(0, 0, 1, 3, 0), BEYOND);
        c.found(x, "copy too many from", x.copy(1, 1, 0, 0, 2), BEYOND);
        c.found(x, "copy too many to", x.copy(0, 0, 1, 1, 2), BEYOND);
        c.found(x, "copy below", x.copy(0, -1, 1, 0, 1), BEYOND);
        c.found(x, "copy to below", x.copy(0, 0, 1, -1, 1), BEYOND);
        c.found(x, "copy max", x.copy(0, MAX, 1, MAX, MAX), BEYOND);
        c.found(x, "copy min", x.copy(0, MIN, 1, 0, 1), BEYOND);
        c.found(x, "copy from nothing", x.copy(2, 0, 1, 0, 1), NOTHING);
        c.found(x, "copy to nothing", x.copy(0, 0, 2, 0, 1), NOTHING);
        c.found(x, "copy size ahead of nothing", x.copy(2, 0, 3, 0, -1), SIZE);
        c.due("copy bad ahead of size", x.copy(6, 0, 0, 0, -1), BAD);
        c.due("copy to bad", x.copy(0, 0, -1, 0, 0), BAD);
        isRow(x, 0, 1, 2, 3, 4, 4);
        isRow(x, 1, 4, 5);
    }

    private static void isRow(StrayKeys x, int r, int... values) {
        for (int i = 0; i < values.length; i++) {
            c.told(x, "row " + r + " place " + i, x.at(r, i), 1, values[i]);
        }
        c.due("row " + r + " ends", x.at(r, values.length), StrayKeys.FINDING);
    }

    private static void mean() { // 7
        StrayKeys x = new StrayKeys();
        c.due("mean -1", x.mean(-1), BAD);
        c.due("mean 6", x.mean(6), BAD);
        c.found(x, "mean nothing", x.mean(0), NOTHING);
        x.row(0, 0);
        c.found(x, "mean nought", x.mean(0), NOUGHT);
        Checks.layRow(x, 0, -9);
        c.told(x, "mean of one", x.mean(0), 1, -9);
        Checks.layRow(x, 0, 1, 2, 2);
        c.told(x, "mean cut", x.mean(0), 1, 1);
        Checks.layRow(x, 0, -1, -2, -2);
        c.told(x, "mean cut below", x.mean(0), 1, -1);
        Checks.layRow(x, 0, MAX, MAX, MAX - 3);
        c.told(x, "mean of great ones", x.mean(0), 1, MAX - 1);
        Checks.layRow(x, 0, MIN, MIN);
        c.told(x, "mean of least ones", x.mean(0), 1, MIN);
        Checks.layRow(x, 0, MIN, MAX);
        c.told(x, "mean of both", x.mean(0), 1, 0);
    }

    private static void text() { // 8
        StrayKeys x = new StrayKeys();
        c.due("text 0", x.text(0, 0), 0);
        c.due("text 60", x.text(3, 60), 60);
        c.due("text 61", x.text(0, 61), BAD);
        c.due("text t -1", x.text(-1, 0), BAD);
        c.due("text t 4", x.text(4, -1), BAD);
        c.found(x, "text below", x.text(0, -1), SIZE);
        c.due("blank", x.put(3, 59, 65), 1032);
        c.due("was", x.put(3, 59, 66), 1065);
        x.text(3, 60);
        c.due("blank anew", x.put(3, 59, 1), 1032);
        c.due("texts there", x.count(7), 2);
    }

    private static void put() { // 9
        StrayKeys x = new StrayKeys();
        c.found(x, "put nothing", x.put(0, 0, 0), NOTHING);
        x.text(0, 2);
        c.due("put t -1", x.put(-1, 0, 0), BAD);
        c.due("put t 4", x.put(4, 0, 0), BAD);
        c.found(x, "put beyond", x.put(0, 2, 0), BEYOND);
        c.found(x, "put below", x.put(0, -1, 0), BEYOND);
        c.due("put", x.put(0, 0, 127), 1032);
        c.due("put cut", x.put(0, 0, 128), 1127);
        c.due("put 255", x.put(0, 0, 255), 872);
        c.due("put 256", x.put(0, 0, 256), 999);
        c.due("put min", x.put(0, 0, MIN + 7), 1000);
        c.due("put last", x.put(0, 0, 0), 1007);
        c.due("put other", x.put(0, 1, 0), 1032);
    }

    private static void faults() { // 10
        StrayKeys x = new StrayKeys();
        c.due("fault -1", x.fault(-1), BAD);
        c.due("fault 4", x.fault(4), BAD);
        c.found(x, "fault nothing", x.fault(3), NOTHING);
        faultIs("", 0);
        faultIs("   ", 3);
        faultIs("k000", 4);
        faultIs("k000  ", 6);
        faultIs("k000k010", NONE);
        faultIs("  k000   k010  ", NONE);
        faultIs("k000 k01", 8);
        faultIs("k000 k0", 7);
        faultIs("k000 k", 6);
        faultIs("k000 x", 5);
        faultIs("k000 K010", 5);
        faultIs("k400k010", 1);
        faultIs("k/00k010", 1);
        faultIs("k060k010", 2);
        faultIs("k0/0k010", 2);
        faultIs("k00:k010", 3);
        faultIs("k00/k010", 3);
        faultIs("k359v000", NONE);
        faultIs("k 000k010", 1);
        faultIs("k0 00k010", 2);
        faultIs("k00 0k010", 3);
        faultIs("k000k000", 6);
        faultIs("k000v010s000", 10);
        faultIs("k009v018s027u036t045w054k100", NONE);
        faultIs("k009v018s027u036t045w054k100  ", NONE);
        faultIs("k009v018s027u036t045w054k100 k110", 29);
        faultIs("k009v018s027u036t045w054k100 x", 29);
        faultIs("k000k010\t", 8);
        x.text(0, 8);
        Checks.write(x, 0, "k000k010");
        x.put(0, 4, 107 + 256);
        c.due("a letter, cut to a byte", x.fault(0), NONE);
        x.put(0, 4, 107 + 128);
        c.due("a byte below 0", x.fault(0), 4);
        c.due("fault makes no board", x.count(0), 0);
    }

    private static void faultIs(String signs, int want) {
        StrayKeys x = new StrayKeys();
        Checks.write(x, 1, signs);
        c.due("fault of '" + signs + "'", x.fault(1), want);
        c.due("board of '" + signs + "' refused", x.board(1) < 0 ? x.board(1) : NONE, want == NONE ? NONE : STATE);
    }

    private static void boardsAndKeys() {
        board();
        key();
        reads();
    }

    private static void board() { // 11
        StrayKeys x = new StrayKeys();
        c.due("board -1", x.board(-1), BAD);
        c.due("board 4", x.board(4), BAD);
        c.found(x, "board nothing", x.board(0), NOTHING);
        Checks.write(x, 0, SQUARE);
        Checks.write(x, 1, "k000k000");
        c.due("board", x.board(0), 4);
        Checks.press(x, 0, 1, 2);
        x.scan();
        x.cut(3);
        x.keep(0);
        x.keep(2);
        long before = x.digest();
        c.due("board with a fault", x.board(1), STATE);
        c.due("a refused board changes nothing", x.digest(), before);
        c.due("board anew", x.board(0), 4);
        for (int what = 1; what < 6; what++) {
            c.due("anew count " + what, x.count(what), 0);
        }
        c.due("kept boards go", x.count(8), 0);
        c.told(x, "anew held", x.key(0, 5), 1, 0);
        Checks.write(x, 3, "v350 w219");
        c.due("another board", x.board(3), 2);
        c.told(x, "its kind", x.key(1, 0), 1, 5);
        x.text(3, 0);
        c.told(x, "a board stays when its text goes", x.key(1, 3), 1, 9);
    }

    private static void key() { // 12
        StrayKeys x = Checks.boardOf("k012 v123 s234 u345 t051 w102");
        int[][] facts = {{0, 0, 1, 2}, {1, 1, 2, 3}, {2, 2, 3, 4}, {3, 3, 4, 5}, {4, 0, 5, 1}, {5, 1, 0, 2}};
        for (int i = 0; i < 6; i++) {
            for (int what = 0; what < 4; what++) {
                c.told(x, "key " + i + " " + what, x.key(i, what), 1, facts[i][what]);
            }
        }
        c.told(x, "not pressed", x.key(4, 4), 1, 0);
        x.press(4);
        c.told(x, "pressed", x.key(4, 4), 1, 1);
        c.told(x, "held for 0", x.key(4, 5), 1, 0);
        c.told(x, "tight, not yet", x.key(4, 6), 1, 0);
        c.told(x, "tight, not told", x.key(4, 7), 1, 0);
        x.scan();
        c.told(x, "held for 1", x.key(4, 5), 1, 1);
        c.told(x, "tight, conducts", x.key(4, 6), 1, 1);
        c.told(x, "tight, told", x.key(4, 7), 1, 1);
        x.cut(0);
        c.told(x, "a cut line: it conducts", x.key(4, 6), 1, 1);
        c.told(x, "a cut line: it is not told", x.key(4, 7), 1, 0);
        c.due("key -1", x.key(-1, 0), BAD);
        c.due("key 6", x.key(6, 0), BAD);
        c.due("key what -1", x.key(0, -1), BAD);
        c.due("key what 8", x.key(0, 8), BAD);
        c.due("refused key leaves asked", x.asked(), 0);
    }

    private static void reads() { // 14
        StrayKeys x = Checks.boardOf("k000 k010 k110 k130 v240 k140");
        Checks.press(x, 0, 1, 2, 3);
        c.due("line 0 reads over 1", x.reads(0), 11);
        c.due("line 1 reads over 0", x.reads(1), 11);
        c.due("line 2 reads none", x.reads(2), 0);
        Checks.press(x, 4, 5);
        c.due("line 2 reads by its valve", x.reads(2), 16 + 11);
        c.due("a valve lets none back", x.reads(0), 16 + 11);
        x.press(5);
        c.due("line 0 not over the valve", x.reads(0), 11);
        c.due("line 2 reads its own column", x.reads(2), 16);
        x.cut(1);
        c.due("line 0 while 1 is cut", x.reads(0), 3);
        c.due("a cut line reads none", x.reads(1), 0);
        c.due("reads -1", x.reads(-1), BAD);
        c.due("reads 4", x.reads(4), BAD);
        StrayKeys chain = Checks.boardOf("k000 k100 k110 k210 k220 k320 k350");
        Checks.press(chain, 0, 1, 2, 3, 4, 5, 6);
        c.due("over four lines", chain.reads(0), 39);
        c.due("and back", chain.reads(3), 39);
        StrayKeys down = Checks.boardOf("k320 k220 k210 k110 k100 k000 k050");
        Checks.press(down, 0, 1, 2, 3, 4, 5, 6);
        c.due("over four lines the other way", down.reads(3), 39);
    }

    private static void kindsConduct() { // the kinds of terms 1
        StrayKeys x = Checks.boardOf("k000 v110 s220 u330 t042 w152");
        conduct(x, "nothing pressed", 8);
        Checks.press(x, 0, 1, 2, 3, 4, 5);
        conduct(x, "scan 0", 63 - 16);
        int[] want = {1 + 2 + 8, 1 + 2 + 4 + 8 + 16, 1 + 2 + 8 + 16, 1 + 2 + 4 + 8 + 16,
            1 + 2 + 8 + 16, 63, 1 + 2 + 8 + 16};
        for (int s = 0; s < want.length; s++) {
            x.scan();
            conduct(x, "scan " + (s + 1), want[s]);
        }
        StrayKeys worn = Checks.boardOf("w001 w110");
        Checks.press(worn, 0, 1);
        conduct(worn, "worn scan 0", 3);
        worn.scan();
        conduct(worn, "worn scan 1", 0);
        worn.scan();
        conduct(worn, "worn scan 2", 3);
        StrayKeys tight = Checks.boardOf("t000 t119");
        Checks.press(tight, 0, 1);
        conduct(tight, "tight 0, 9", 1);
        Checks.scans(tight, 8);
        conduct(tight, "tight 8 scans", 1);
        tight.scan();
        conduct(tight, "tight 9 scans", 3);
        Checks.scans(tight, 3);
        c.told(tight, "held for 9 at most", tight.key(1, 5), 1, 9);
        tight.press(1);
        c.told(tight, "let go", tight.key(1, 5), 1, 0);
        tight.press(1);
        c.told(tight, "pressed again", tight.key(1, 5), 1, 0);
        conduct(tight, "pressed again", 1);
    }

    private static void conduct(StrayKeys x, String what, int want) {
        int set = 0;
        for (int i = 0; i < x.count(0); i++) {
            x.key(i, 6);
            set |= x.asked() << i;
        }
        c.due("conducting: " + what, set, want);
    }

    private static void marks() { // 13
        StrayKeys x = Checks.boardOf("v000 k010 k100 k110");
        Checks.press(x, 0, 1, 2);
        c.due("a valve that keeps a ghost away", x.mark(0, 1), 11);
        x.press(0);
        c.due("a valve not pressed", x.mark(0, 1), 10);
        c.found(x, "a valve is not tight", x.mark(0, 4), UNLIKE);
        c.found(x, "a key is no valve", x.mark(1, 1), UNLIKE);
        c.due("mark kind 0", x.mark(1, 0), BAD);
        c.due("mark kind 6", x.mark(1, 6), BAD);
        c.due("mark kind -1", x.mark(1, -1), BAD);
        c.due("mark key 4", x.mark(4, 1), BAD);
        c.due("mark key -1", x.mark(-1, 1), BAD);
        StrayKeys tight = Checks.boardOf("t003 k010 k100 k110");
        Checks.press(tight, 0, 1, 2);
        c.due("a tight one, were it a key", tight.mark(0, 1), 12);
        c.due("a tight one still to be held", tight.mark(0, 4), 3);
        Checks.scans(tight, 2);
        c.due("a tight one held for 2", tight.mark(0, 4), 1);
        Checks.scans(tight, 2);
        c.due("a tight one held for 4", tight.mark(0, 4), 0);
        c.due("a tight one that conducts, were it a key", tight.mark(0, 1), 11);
        c.found(tight, "a tight one is not shy", tight.mark(0, 2), UNLIKE);
        StrayKeys shy = Checks.boardOf("s000 w112 w121 w130 w149");
        int[][] due = {{4, 4, 2, 2}, {4, 4, 1, 3}, {4, 4, 1, 3}, {4, 4, 1, 3}};
        for (int s = 0; s < due.length; s++) {
            c.due("shy in scan " + s, shy.mark(0, 2), due[s][0]);
            c.due("worn 1 as shy in scan " + s, shy.mark(2, 2), due[s][1]);
            c.due("worn 2 as shy in scan " + s, shy.mark(1, 2), due[s][2]);
            c.due("worn 2 in scan " + s, shy.mark(1, 5), due[s][3]);
            c.due("worn 0 in scan " + s, shy.mark(3, 5), 0);
            shy.scan();
        }
        c.due("worn 9 in scan 4", shy.mark(4, 2), 1);
        c.due("worn 9 in scan 4, not", shy.mark(4, 5), 3);
        c.found(shy, "a shy one is not worn", shy.mark(0, 5), UNLIKE);
        StrayKeys stuck = Checks.boardOf("u000 k010 k100 k110");
        c.due("stuck: itself", stuck.mark(0, 3), 11);
        Checks.press(stuck, 1, 2);
        c.due("stuck: itself and a ghost", stuck.mark(0, 3), 12);
        stuck.press(3);
        c.due("stuck, told anyhow", stuck.mark(0, 3), 10);
        c.found(stuck, "a stuck one is no valve", stuck.mark(0, 1), UNLIKE);
        Checks.write(stuck, 1, "k000 k010");
        stuck.fault(1);
        stuck.press(3);
        c.due("stuck behind a fault", stuck.mark(0, 3), 12);
        Checks.write(shy, 1, "u007 u010");
        shy.fault(1);
        c.due("worn behind a fault", shy.mark(1, 5), 3);
    }

    private static void deeds() {
        pressScanCut();
        full();
        undo();
    }

    private static void pressScanCut() { // 15, 16, 17
        StrayKeys none = new StrayKeys();
        c.due("press without keys", none.press(0), BAD);
        c.due("scan without keys", none.scan(), STATE);
        c.due("cut without keys", none.cut(0), STATE);
        c.due("cut bad ahead of state", none.cut(4), BAD);
        StrayKeys x = Checks.boardOf(SQUARE);
        c.due("press", x.press(0), 1);
        c.due("press another", x.press(3), 2);
        c.due("let go", x.press(0), 1);
        c.due("pressed", x.count(3), 8);
        c.due("press -1", x.press(-1), BAD);
        c.due("press 4", x.press(4), BAD);
        c.due("scan tells", x.scan(), 1);
        Checks.press(x, 0, 1);
        c.due("scan tells the ghost", x.scan(), 4);
        c.due("the scan", x.count(1), 2);
        c.told(x, "held", x.key(3, 5), 1, 2);
        c.told(x, "held for less", x.key(0, 5), 1, 1);
        c.told(x, "not held", x.key(2, 5), 1, 0);
        c.due("cut", x.cut(1), 1);
        c.due("cut another", x.cut(3), 2);
        c.due("lines cut", x.count(4), 10);
        c.due("told while cut", x.told(), 3);
        c.due("joined", x.cut(1), 1);
        c.due("told again", x.told(), 15);
        c.due("cut -1", x.cut(-1), BAD);
        c.due("cut 4", x.cut(4), BAD);
        c.due("deeds", x.count(2), 10);
        StrayKeys shy = Checks.boardOf("s000 k110");
        shy.press(0);
        c.due("told in it, not behind it", shy.scan(), 1);
        c.due("not told in the next", shy.scan(), 0);
    }

    private static void full() { // 40 deeds at most
        StrayKeys x = Checks.boardOf(SQUARE);
        for (int d = 0; d < 40; d++) {
            c.due("deed " + d, x.press(0), 1 - d % 2);
        }
        long before = x.digest();
        c.due("press full", x.press(0), FULL);
        c.due("press bad ahead of full", x.press(4), BAD);
        c.due("scan full", x.scan(), FULL);
        c.due("cut full", x.cut(0), FULL);
        c.due("cut bad ahead of full", x.cut(4), BAD);
        c.due("lots full", x.lots(1, 1), FULL);
        c.due("lots bad ahead of full", x.lots(0, 1), BAD);
        c.due("nothing done", x.digest(), before);
        x.keep(0);
        x.undo(20);
        c.due("room again", x.lots(20, 1) >= 0 ? 1 : 0, 1);
        c.due("full again", x.scan(), FULL);
        x.undo(21);
        c.due("lots one too many", x.lots(20, 1), FULL);
        x.undo(0);
        Checks.scans(x, 39);
        c.due("the fortieth scan", x.scan(), 0);
        x.undo(39);
        c.due("the fortieth cut", x.cut(0), 1);
        x.undo(39);
        c.due("the fortieth by lots", x.lots(1, 1), 1);
    }

    private static void undo() { // 18
        StrayKeys none = new StrayKeys();
        c.due("undo nothing", none.undo(0), 0);
        c.due("undo 1 of none", none.undo(1), BAD);
        StrayKeys x = Checks.boardOf("t002 k010 k100 k110");
        long[] digests = new long[12];
        int[] steps = {0, 7, 1, 7, 9, 7, 0, 2, 7, 9, 0};
        for (int d = 0; d < steps.length; d++) {
            digests[d] = x.digest();
            doDeed(x, steps[d]);
        }
        digests[steps.length] = x.digest();
        c.due("undo -1", x.undo(-1), BAD);
        c.due("undo too far", x.undo(12), BAD);
        c.due("undo none", x.undo(11), 0);
        c.due("undone none", x.digest(), digests[11]);
        for (int d = steps.length - 1; d >= 0; d--) {
            c.due("undo " + d, x.undo(d), 1);
            c.due("undone " + d, x.digest(), digests[d]);
        }
        for (int d : steps) {
            doDeed(x, d);
        }
        c.due("undo many", x.undo(4), 7);
        c.due("undone many", x.digest(), digests[4]);
        c.told(x, "held as then", x.key(0, 5), 1, 2);
    }

    private static void doDeed(StrayKeys x, int deed) {
        if (deed < 7) {
            x.press(deed);
        } else if (deed == 7) {
            x.scan();
        } else {
            x.cut(deed - 8);
        }
    }

    private static void kept() { // 19, 20
        StrayKeys none = new StrayKeys();
        c.due("keep without keys", none.keep(0), STATE);
        c.due("keep bad ahead of state", none.keep(3), BAD);
        StrayKeys x = Checks.boardOf(SQUARE);
        c.found(x, "on nothing", x.on(0), NOTHING);
        c.due("on -1", x.on(-1), BAD);
        c.due("on 3", x.on(3), BAD);
        c.due("keep -1", x.keep(-1), BAD);
        c.due("keep a new board", x.keep(2), 0);
        Checks.press(x, 0, 1);
        x.scan();
        x.cut(2);
        c.due("keep", x.keep(0), 4);
        c.due("kept boards", x.count(8), 2);
        int told = x.told();
        x.press(2);
        x.undo(1);
        c.due("on", x.on(0), 4);
        c.due("on: told", x.told(), told);
        c.due("on: pressed", x.count(3), 3);
        c.due("on: scan", x.count(1), 1);
        c.due("on: cut", x.count(4), 4);
        c.told(x, "on: held", x.key(1, 5), 1, 1);
        c.due("on: undo", x.undo(1), 3);
        c.due("on: undone", x.count(3), 1);
        c.due("on again", x.on(0), 4);
        c.due("on the new board", x.on(2), 0);
        c.due("on the new board: pressed", x.count(3), 0);
        c.due("still kept", x.count(8), 2);
        c.due("keep over it", x.keep(0), 0);
        c.due("kept over", x.on(0), 0);
    }

    private static void whatIsTold() { // 21, 22, 23, 24
        StrayKeys none = new StrayKeys();
        c.told(none, "told without keys", none.told(), 0, 0);
        c.told(none, "ghosts without keys", none.ghosts(), 0, 0);
        c.due("later without keys", none.later(20), STATE);
        c.due("later bad ahead of state", none.later(21), BAD);
        c.due("would without keys", none.would(0), STATE);
        c.due("would bad ahead of state", none.would(1), BAD);
        StrayKeys x = Checks.boardOf(SQUARE);
        Checks.press(x, 0, 1, 2);
        c.told(x, "told", x.told(), 15, 1);
        c.told(x, "ghosts", x.ghosts(), 8, 0);
        c.due("would now", x.would(11), 15);
        c.due("would of two", x.would(9), 9);
        c.due("would of none", x.would(0), 0);
        c.due("would of all", x.would(15), 15);
        c.due("would 16", x.would(16), BAD);
        c.due("would -1", x.would(-1), BAD);
        c.due("would leaves what is pressed", x.count(3), 7);
        x.cut(1);
        c.told(x, "told, cut", x.told(), 3, 0);
        c.told(x, "ghosts, cut", x.ghosts(), 0, 4);
        c.due("would, cut", x.would(15), 3);
        StrayKeys tight = Checks.boardOf("t002 t010 k110");
        c.due("would, not held", tight.would(7), 6);
        tight.press(0);
        Checks.scans(tight, 2);
        c.due("would, held", tight.would(7), 7);
        c.due("would without it", tight.would(6), 6);
        later();
    }

    private static void later() { // 23
        StrayKeys x = Checks.boardOf("t002 s110 w222 k330");
        Checks.press(x, 0, 1, 2, 3);
        long before = x.digest();
        // 0: s w k, 1: k, 2: t s k, 3: t k, 4: t s k, 5: t k, 6: all
        c.told(x, "later 0", x.later(0), 14, 1);
        c.told(x, "later 1", x.later(1), 8, 2);
        c.told(x, "later 2", x.later(2), 11, 3);
        c.told(x, "later 3", x.later(3), 9, 4);
        c.told(x, "later 4", x.later(4), 11, 4);
        c.told(x, "later 5", x.later(5), 9, 4);
        c.told(x, "later 6", x.later(6), 15, 5);
        c.told(x, "later 20", x.later(20), 11, 5);
        c.due("later 21", x.later(21), BAD);
        c.due("later -1", x.later(-1), BAD);
        c.due("later does nothing", x.digest(), before);
        x.press(3);
        c.told(x, "later, one let go", x.later(12), 7, 5);
        x.cut(1);
        c.told(x, "later, cut", x.later(6), 5, 4);
        StrayKeys shy = Checks.boardOf("s000 k110");
        Checks.press(shy, 0, 1);
        c.told(shy, "later, the first once more", shy.later(2), 3, 2);
        StrayKeys held = Checks.boardOf("t009 k110");
        held.press(0);
        c.told(held, "later 8", held.later(8), 0, 1);
        c.told(held, "later 9", held.later(9), 1, 2);
        c.told(held, "later 15", held.later(15), 1, 2);
    }

    private static void sets() {
        haunts();
        right();
        alike();
        best();
    }

    private static void haunts() { // 25
        StrayKeys x = Checks.boardOf(SQUARE);
        c.told(x, "haunts 0", x.haunts(0), 14, 3);
        c.told(x, "haunts 1", x.haunts(1), 13, 3);
        c.told(x, "haunts 2", x.haunts(2), 11, 3);
        c.told(x, "haunts 3", x.haunts(3), 7, 3);
        c.due("haunts 4", x.haunts(4), BAD);
        c.due("haunts -1", x.haunts(-1), BAD);
        c.due("haunts without keys", new StrayKeys().haunts(0), BAD);
        x.cut(0);
        c.told(x, "haunts by none leaves asked", x.haunts(3), NONE, 3);
        // Five keys or three lead round: the fewest, though 96 + 4 is a greater number.
        StrayKeys two = Checks.boardOf("k000 k010 k110 k120 k220 k200 k100");
        c.told(two, "haunts by few", two.haunts(0), 2 + 4 + 64, 3);
        StrayKeys like = Checks.boardOf("k000 k010 k110 k100 k020 k120");
        c.told(like, "haunts by the least number", like.haunts(0), 14, 3);
        StrayKeys greater = Checks.boardOf("k120 k020 k100 k110 k010 k000");
        c.told(greater, "the least number of like few", greater.haunts(5), 7, 3);
        StrayKeys stuck = Checks.boardOf("u000 u010 u100 k110");
        c.told(stuck, "haunts by none pressed", stuck.haunts(3), 0, 0);
        StrayKeys tight = Checks.boardOf("t001 k010 k100 k110");
        c.due("a valve in the way back", tight.haunts(3), NONE);
    }

    private static void right() { // 26
        c.due("right without keys", new StrayKeys().right(), STATE);
        StrayKeys x = Checks.boardOf(SQUARE);
        c.told(x, "right", x.right(), 12, 2);
        StrayKeys valves = Checks.boardOf("v000 v010 v100 v110");
        c.told(valves, "right, all", valves.right(), 16, 4);
        StrayKeys stuck = Checks.boardOf("u000 k110");
        c.told(stuck, "right, not even of none", stuck.right(), 2, -1);
        StrayKeys tight = Checks.boardOf("t001 k110");
        c.told(tight, "right of none", tight.right(), 2, 0);
        tight.press(0);
        tight.scan();
        c.told(tight, "right, held", tight.right(), 4, 2);
        x.cut(1);
        c.told(x, "right, cut", x.right(), 4, 0);
    }

    private static void alike() { // 27
        c.due("alike without keys", new StrayKeys().alike(), STATE);
        StrayKeys x = Checks.boardOf(SQUARE);
        c.told(x, "alike none", x.alike(), 1, 0);
        Checks.press(x, 1, 2, 3);
        c.told(x, "alike", x.alike(), 5, 7);
        x.cut(0);
        c.told(x, "alike, cut", x.alike(), 4, 12);
        StrayKeys stuck = Checks.boardOf("u000 k110");
        stuck.press(1);
        c.told(stuck, "alike, stuck", stuck.alike(), 2, 2);
    }

    private static void best() { // 28
        c.due("best without keys", new StrayKeys().best(), STATE);
        StrayKeys x = Checks.boardOf(SQUARE);
        c.told(x, "best, the first", x.best(), 0, 13);
        StrayKeys one = Checks.boardOf("v000 v010 k100 v110");
        c.told(one, "best, the one", one.best(), 2, 16);
        StrayKeys none = Checks.boardOf("v000 v010 v100 v110");
        none.told();
        c.told(none, "best, none", none.best(), NONE, 0);
        StrayKeys stuck = Checks.boardOf("k000 u110");
        c.told(stuck, "best of any kind", stuck.best(), 1, 4);
        StrayKeys tight = Checks.boardOf("k000 t111");
        c.told(tight, "best of a tight one", tight.best(), 1, 4);
        c.told(tight, "best changes nothing", tight.key(1, 0), 1, 4);
    }

    private static void whichKey() {
        refusedPairs();
        kinds();
        places();
        test();
    }

    private static void refusedPairs() { // 29, 30, 31
        StrayKeys none = new StrayKeys();
        none.row(0, 0);
        c.due("kinds without keys", none.kinds(0, 0), BAD);
        StrayKeys x = Checks.boardOf(SQUARE);
        Checks.layRow(x, 0, 16, 0, 0);
        Checks.layRow(x, 1, 0, 16);
        Checks.layRow(x, 2, -1, 0);
        for (int call = 0; call < 3; call++) {
            c.due("pairs key 4", ask(x, call, 4, 0), BAD);
            c.due("pairs key -1", ask(x, call, -1, 5), BAD);
            c.due("pairs row 6", ask(x, call, 0, 6), BAD);
            c.due("pairs row -1", ask(x, call, 0, -1), BAD);
            c.found(x, "pairs nothing", ask(x, call, 0, 5), NOTHING);
            c.found(x, "pairs size ahead of unlike", ask(x, call, 0, 0), SIZE);
            c.found(x, "pairs unlike told", ask(x, call, 0, 1), UNLIKE);
            c.found(x, "pairs unlike pressed", ask(x, call, 0, 2), UNLIKE);
        }
    }

    private static int ask(StrayKeys x, int call, int i, int r) {
        return call == 0 ? x.kinds(i, r) : call == 1 ? x.places(i, r) : x.test(i, r);
    }

    private static void kinds() { // 29
        StrayKeys x = Checks.boardOf("k001 k010 k100 k110");
        x.row(0, 0);
        c.due("kinds by none", x.kinds(0, 0), 63);
        Checks.layRow(x, 0, 0, 0);
        c.due("kinds but stuck", x.kinds(0, 0), 55);
        Checks.layRow(x, 0, 0, 1);
        c.due("kinds stuck", x.kinds(0, 0), 8);
        Checks.layRow(x, 0, 7, 15);
        c.due("kinds that let back", x.kinds(0, 0), 1 + 4 + 8 + 32);
        Checks.layRow(x, 0, 7, 7);
        c.due("kinds valve", x.kinds(0, 0), 2);
        Checks.layRow(x, 0, 7, 6);
        c.due("kinds tight", x.kinds(0, 0), 16);
        Checks.layRow(x, 0, 7, 7, 0, 1);
        c.due("kinds none", x.kinds(0, 0), 0);
        x.scan();
        Checks.layRow(x, 0, 1, 0);
        c.due("kinds in an odd scan", x.kinds(0, 0), 4 + 16 + 32);
        x.press(0);
        x.scan();
        x.scan();
        c.due("kinds in an odd scan, held", x.kinds(0, 0), 4 + 32);
        c.told(x, "kinds changes nothing", x.key(0, 0), 1, 0);
    }

    private static void places() { // 30
        StrayKeys x = Checks.boardOf("k000 k010 k100 k110");
        x.row(0, 0);
        c.told(x, "places by none", x.places(3, 0), 21, 2);
        c.told(x, "places, its own the first", x.places(0, 0), 21, 0);
        Checks.layRow(x, 0, 7, 15);
        c.told(x, "places of a ghost", x.places(3, 0), 1, 11);
        Checks.layRow(x, 0, 15, 15, 7, 7);
        c.told(x, "places of no ghost", x.places(3, 0), 20, 2);
        Checks.layRow(x, 0, 0, 1);
        x.haunts(3);
        c.told(x, "places at none leaves asked", x.places(0, 0), NONE, 3);
        x.cut(0);
        x.cut(1);
        Checks.layRow(x, 0, 8, 8);
        c.told(x, "places on whole lines", x.places(3, 0), 12, 20);
        c.told(x, "places changes nothing", x.key(3, 1), 1, 1);
    }

    private static void test() { // 31
        StrayKeys x = Checks.boardOf("k001 k010 k100 k110");
        x.row(0, 0);
        // Set 0 leaves 5 alike; 1 leaves 5; 6 leaves 4 besides stuck, which haunts; 7 parts let-back, valve, tight.
        c.told(x, "test of all", x.test(0, 0), 7, 4);
        Checks.layRow(x, 0, 7, 15);
        c.told(x, "test of those that let back", x.test(0, 0), 0, 3);
        Checks.layRow(x, 0, 0, 1);
        c.told(x, "test of one", x.test(0, 0), 0, 1);
        Checks.layRow(x, 0, 0, 1, 0, 0);
        x.haunts(3);
        c.told(x, "test of none leaves asked", x.test(0, 0), NONE, 3);
        x.scan();
        x.row(0, 0);
        // 1 parts key, valve, stuck from shy, tight, worn; 6 parts stuck from the others;
        // 7: key, stuck with the ghost, valve without it, the rest not.
        c.told(x, "test in an odd scan", x.test(0, 0), 1, 3);
        Checks.layRow(x, 0, 7, 15, 0, 0);
        c.due("kinds: a plain key alone", x.kinds(0, 0), 1);
        c.told(x, "test of a plain key alone", x.test(0, 0), 0, 1);
        x.row(0, 0);
        x.cut(0);
        c.told(x, "test in vain", x.test(0, 0), 0, 6);
        x.cut(0);
        x.best();
        x.fault(1);
        Checks.write(x, 1, "u000 u010");
        x.fault(1);
        c.told(x, "test behind a fault", x.test(0, 0), 1, 3);
        x.fault(1);
        c.due("kinds behind a fault", x.kinds(0, 0), 63);
        x.undo(0);
        Checks.layRow(x, 0, 7, 7, 0, 0);
        x.fault(1);
        c.due("one kind behind a fault", x.kinds(0, 0), 2);
        c.told(x, "test of one behind a fault", x.test(0, 0), 0, 1);
    }

    private static void turns() { // 32
        c.due("duel without keys", new StrayKeys().duel(0), STATE);
        c.due("duel bad ahead of state", new StrayKeys().duel(5), BAD);
        StrayKeys x = Checks.boardOf(SQUARE);
        c.due("duel -1", x.duel(-1), BAD);
        c.due("duel 5", x.duel(5), BAD);
        int[] fromNone = {0, 0, 0, 0, 0};
        int[] fromTwo = {0, 1, 0, 1, 0};
        int[] fromThree = {1, 1, 0, 0, 0};
        duels(x, "from none", fromNone);
        Checks.press(x, 0, 1);
        duels(x, "from two", fromTwo);
        x.press(2);
        long before = x.digest();
        duels(x, "from three", fromThree);
        c.due("duel does nothing", x.digest(), before);
        StrayKeys stuck = Checks.boardOf("u000 u110 u220");
        duels(stuck, "stuck", new int[] {3, 3, 2, 2, 1});
        StrayKeys one = Checks.boardOf("k000 u010 u100 k110");
        Checks.press(one, 1, 2);
        duels(one, "by either key", new int[] {0, 1, 0, 1, 0});
        StrayKeys lead = Checks.boardOf("k000 u110 k220");
        duels(lead, "all but the last pressed", new int[] {1, 1, 0, 0, 0});
        lead.press(1);
        duels(lead, "none left", new int[] {0, 0, 0, 0, 0});
        StrayKeys only = Checks.boardOf("u000 k010 k100 v110");
        Checks.press(only, 1, 2);
        duels(only, "the first key alone", new int[] {2, 2, 1, 1, 0});
        StrayKeys tight = Checks.boardOf("u000 t011 u100 k110");
        duels(tight, "a tight one does not conduct", new int[] {2, 3, 2, 2, 1});
    }

    private static void duels(StrayKeys x, String what, int[] want) {
        for (int n = 0; n < want.length; n++) {
            c.due("duel " + what + " " + n, x.duel(n), want[n]);
        }
    }

    private static void chances() { // 33, 34, 37, 38
        StrayKeys none = new StrayKeys();
        c.due("odds without keys", none.odds(0), STATE);
        c.due("odds bad ahead of state", none.odds(13), BAD);
        c.due("mid without keys", none.mid(12), STATE);
        c.due("mid bad ahead of state", none.mid(-1), BAD);
        StrayKeys x = Checks.boardOf(SQUARE);
        fraction(x, "odds 6", x.odds(6), 3, 4);
        fraction(x, "odds 1", x.odds(1), 5173, 5184);
        fraction(x, "odds 0", x.odds(0), 1, 1);
        fraction(x, "odds 12", x.odds(12), 1, 1);
        fraction(x, "mid 6", x.mid(6), 1, 4);
        fraction(x, "mid 1", x.mid(1), 11, 5184);
        c.due("odds -1", x.odds(-1), BAD);
        c.due("mid 13", x.mid(13), BAD);
        fraction(x, "refused leaves it", 1, 11, 5184);
        fraction(x, "mid 0", x.mid(0), 0, 1);
        StrayKeys first = Checks.boardOf(SQUARE);
        fraction(first, "mid ahead of odds", first.mid(6), 1, 4);
        StrayKeys stuck = Checks.boardOf("u000 u110 u220 u330 u040 u150 u200");
        fraction(stuck, "odds 5 of 7", stuck.odds(5), 78125, 35831808);
        fraction(stuck, "odds 0 of 7", stuck.odds(0), 0, 1);
        // Keys 2 and 6 lie on line 2, 0 and 4 on 0, 1 and 5 on 1: all are told anyhow, so each is a ghost by 7 of 12.
        fraction(stuck, "mid 5 of 7", stuck.mid(5), 49, 12);
        fraction(stuck, "mid 0 of 7", stuck.mid(0), 7, 1);
        StrayKeys tight = Checks.boardOf("t001 k110");
        fraction(tight, "odds, not held", tight.odds(3), 3, 4);
        tight.press(0);
        tight.scan();
        fraction(tight, "odds, held", tight.odds(3), 1, 1);
    }

    private static void fraction(StrayKeys x, String what, int got, long upper, long lower) {
        c.due(what, got, 1);
        c.due(what + ", upper", x.upper(), upper);
        c.due(what + ", lower", x.lower(), lower);
    }

    private static void lots() { // 35
        StrayKeys none = new StrayKeys();
        c.due("lots without keys", none.lots(1, 1), STATE);
        c.due("lots bad ahead of state", none.lots(1, MAX), BAD);
        StrayKeys x = Checks.boardOf(SQUARE);
        c.due("lots 0", x.lots(0, 1), BAD);
        c.due("lots 21", x.lots(21, 1), BAD);
        c.due("lots seed 0", x.lots(1, 0), BAD);
        c.due("lots seed -1", x.lots(1, -1), BAD);
        c.due("lots seed too great", x.lots(1, MAX), BAD);
        // 48271: key 1; 182605794: a scan; 1291394886: key 0; 1914720637: key 3.
        c.due("lots", x.lots(4, 1), 4);
        c.due("lots: pressed", x.count(3), 11);
        c.due("lots: scan", x.count(1), 1);
        c.due("lots: deeds", x.count(2), 4);
        c.told(x, "lots: held", x.key(1, 5), 1, 1);
        c.due("lots are undone", x.undo(1), 3);
        c.due("lots are undone: pressed", x.count(3), 2);
        // 8 leads to 386168, which cuts line 3; the greatest seed leads to 2147435376, which cuts line 2.
        x.undo(0);
        c.due("lots cut", x.lots(1, 8), 0);
        c.due("lots: cut", x.count(4), 8);
        c.due("lots cut by the greatest seed", x.lots(1, MAX - 1), 0);
        c.due("lots: cut too", x.count(4), 12);
        c.due("lots join", x.lots(1, 8), 0);
        c.due("lots: joined", x.count(4), 4);
        x.undo(0);
        // 3 times 48271 is 144813, 5 modulo 8; 5 times it is 241355, 3 modulo 8; 7 times it is 337897, 1 modulo 8.
        x.lots(1, 5);
        x.lots(1, 7);
        c.due("lots: scans by 3 and 1", x.count(1), 2);
        x.lots(1, 3);
        c.due("lots: no scan by 5", x.count(1), 2);
        // 12 times it is 579252, 4 modulo 8: key 72406 modulo 4.
        c.due("lots: by 4", x.lots(1, 12) >= 0 ? x.count(3) & 4 : 0, 4);
        StrayKeys two = Checks.boardOf("k000 k110");
        c.due("lots of two keys", two.lots(1, 1), 1);
        c.due("lots: the key", two.count(3), 2);
        Checks.scans(two, 19);
        c.due("lots up to 40", two.lots(20, 5) >= 0 ? 1 : 0, 1);
        c.due("lots: 40 deeds", two.count(2), 40);
    }

    private static void asked() { // 36
        StrayKeys x = Checks.boardOf(SQUARE);
        Checks.layRow(x, 0, 5, 6);
        Checks.press(x, 0, 1);
        x.at(0, 1);
        x.copy(0, 0, 0, 1, 1);
        x.mark(0, 1);
        x.reads(0);
        x.press(2);
        x.scan();
        x.cut(0);
        x.undo(3);
        x.keep(0);
        x.on(0);
        x.would(3);
        x.kinds(0, 1);
        x.duel(2);
        x.odds(3);
        x.mid(3);
        x.lots(1, 1);
        x.count(5);
        x.finding();
        x.findings(1);
        x.digest();
        x.tear(0);
        x.text(2, 3);
        x.put(2, 0, 3);
        x.fault(2);
        x.board(2);
        c.due("asked stays", x.asked(), 6);
        x.board(0);
        c.due("asked stays behind a board", x.asked(), 6);
        x.right();
        c.due("asked anew", x.asked(), 2);
        x.at(0, 9);
        x.key(9, 0);
        x.later(21);
        x.haunts(9);
        x.places(0, 5);
        x.test(0, 5);
        x.mean(5);
        c.due("asked stays when refused", x.asked(), 2);
    }

    private static void counts() { // 39
        StrayKeys x = Checks.boardOf("k000 v110 s220 u330 t042 w152 t203");
        x.row(1, 3);
        x.row(2, 0);
        x.text(3, 1);
        Checks.press(x, 0, 4);
        x.scan();
        x.cut(1);
        x.cut(3);
        x.keep(1);
        int[] want = {7, 1, 5, 17, 10, 1, 2, 2, 1, 3, 2};
        for (int what = 0; what < want.length; what++) {
            c.due("count " + what, x.count(what), want[what]);
        }
        c.due("count -1", x.count(-1), BAD);
        c.due("count 11", x.count(11), BAD);
    }

    private static void findings() { // 40, 41
        StrayKeys x = new StrayKeys();
        x.at(0, 0);
        x.tear(0);
        x.row(0, 1);
        x.at(0, 1);
        x.row(0, 0);
        x.mean(0);
        x.row(0, -1);
        x.row(0, -1);
        x.row(0, -1);
        x.row(9, 9);
        c.due("finding", x.finding(), SIZE);
        Checks.write(x, 0, SQUARE);
        x.board(0);
        x.mark(0, 2);
        c.due("finding unlike", x.finding(), UNLIKE);
        x.right();
        c.due("finding stays", x.finding(), UNLIKE);
        int[] want = {BAD, 2, 1, 1, 1, 3, BAD};
        for (int f = 0; f < want.length; f++) {
            c.due("findings " + f, x.findings(f), want[f]);
        }
        c.due("findings -1", x.findings(-1), BAD);
    }

    private static void digest() { // 42
        StrayKeys x = new StrayKeys();
        c.due("digest of a new object", x.digest(), mix(17, 0, 0, 0, 0, 0, 0, 0, 0, 0, 0, 0,
            -1, -1, -1, -1, -1, -1, -1, -1, -1, -1, -1, -1, -1));
        Checks.write(x, 1, "t023u110");
        x.board(1);
        x.press(0);
        x.keep(1);
        x.scan();
        x.cut(0);
        x.keep(2);
        Checks.layRow(x, 4, -7, 8);
        x.text(3, 1);
        x.put(3, 0, 200);
        c.due("digest", x.digest(), mix(17,
            2, 1, 3, 1, 1, 1, 1, 2, 2, 1, 0,
            4, 0, 2, 3, 1, 1, 0, 0,
            3, 1, 1, 0, 0, 0, 1, 1,
            -1, 1, 3,
            -1, -1, -1, -1, 2, -7, 8, -1,
            -1, 8, 't', '0', '2', '3', 'u', '1', '1', '0', -1, 1, 200 - 256));
    }

    private static long mix(long h, int... values) {
        long mixed = h;
        for (int v : values) {
            mixed = 31 * mixed + v;
        }
        return mixed;
    }
}
