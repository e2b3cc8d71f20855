/** Promises 10 to 14 and the language of boards: faults, boards, keys, marks, what a line reads. */
final class BoardEdges {
    private static final int BAD = Edges.BAD, STATE = Edges.STATE, NONE = Edges.NONE, MIN = Edges.MIN, MAX = Edges.MAX;
    private static final int NOTHING = Edges.NOTHING, UNLIKE = Edges.UNLIKE;
    private static final int[] NO_TEXTS = {MIN, -1, 4, 5, MAX};
    /** Of each kind in Scenes.ALL_KINDS: which kinds its keys are. */
    private static final int[][] IS = {{}, {1}, {2}, {3}, {1, 4}, {2, 5}, {}};
    private static final String SEVEN = "k000v010s020u030t040w050k100";

    private final Edges e;

    BoardEdges(Edges e) {
        this.e = e;
    }

    void run() {
        blanks();
        manyKeys();
        items();
        letters();
        figures();
        taken();
        eighth();
        earlyEnd();
        fault();
        board();
        boardBehindAnother();
        boardRefused();
        key();
        keyRefused();
        markRefused();
        markValve();
        markShy();
        markStuck();
        markTight();
        markWorn();
        reads();
    }

    /** The fault of a text; a board by it is refused, unless there is none. */
    private void faultIs(String signs, int want) {
        Edges.Scene scene = Scenes.then(Scenes::rich, x -> Checks.write(x, 2, signs));
        String what = "'" + signs + "'";
        e.answers("fault of " + what, scene, x -> x.fault(2), want);
        if (want == NONE) {
            e.answers("board by " + what, scene, x -> x.board(2), signs.replace(" ", "").length() / 4);
        } else {
            e.refuses("board by " + what, scene, x -> x.board(2), STATE);
        }
    }

    private void blanks() {
        e.sentence(0, "A BOARD (without KEYS at first) is a TEXT");
        e.answers("KEYS at first", Scenes::fresh, x -> x.count(0), 0);
        e.answers("KEYS by a TEXT that is no BOARD yet", Scenes::bare, x -> x.count(0), 0);
        e.sentence(0, "blanks (32) ahead, between, behind as many as wanted");
        String many = " ".repeat(52);
        faultIs("k000k110", NONE);
        faultIs(" k000k110", NONE);
        faultIs("k000 k110", NONE);
        faultIs("k000k110 ", NONE);
        faultIs(many + "k000k110", NONE);
        faultIs("k000" + many + "k110", NONE);
        faultIs("k000k110" + many, NONE);
        faultIs(" k000  k110   ", NONE);
        for (int sign : new int[] {-128, -96, -32, 0, 9, 10, 13, 31, 33, 96}) {
            faultOfByte("ahead", " k000 k110 ", 0, sign, 0);
            faultOfByte("between", " k000 k110 ", 5, sign, 5);
            faultOfByte("behind", " k000 k110 ", 10, sign, 10);
        }
        e.sentence(0, "none within items");
        for (int place = 1; place < 4; place++) {
            faultIs("k000".substring(0, place) + " " + "k000".substring(place) + "k110", place);
            faultIs("k000" + "k110".substring(0, place) + " " + "k110".substring(place), 4 + place);
        }
    }

    /** The fault of a text in which one byte is another one. */
    private void faultOfByte(String what, String signs, int place, int sign, int want) {
        Edges.Scene scene = Scenes.then(Scenes::fresh, x -> {
            Checks.write(x, 0, signs);
            x.put(0, place, sign);
        });
        e.answers(what + ", the byte " + sign, scene, x -> x.fault(0), want);
    }

    private void manyKeys() {
        e.sentence(0, "KEYS (2 to 7");
        for (int many = 0; many <= 8; many++) {
            String signs = (SEVEN + "k110").substring(0, 4 * many);
            faultIs(signs, many < 2 ? 4 * many : many > 7 ? 28 : NONE);
        }
    }

    private void items() {
        e.sentence(0, "0, 1, .. as they come), each a letter, its LINE (0 .. 3), its COLUMN (0 .. 5), its DELAY (0 .. 9");
        int[][] want = {{5, 3, 5, 9}, {0, 0, 0, 0}, {1, 3, 0, 1}, {4, 0, 5, 8}};
        for (int key = 0; key < want.length; key++) {
            for (int what = 0; what < 4; what++) {
                int i = key;
                int fact = what;
                e.tells("KEY " + i + ", " + what, Scenes.of("w359 k000 v301 t058"), x -> x.key(i, fact), 1,
                    want[key][what]);
            }
        }
        e.sentence(0, "one figure each), no two at one LINE and COLUMN");
        faultIs("k0010k110", 4);
        faultIs("k000k1100", 8);
        faultIs("k000k000", 6);
        faultIs("k000k010", NONE);
        faultIs("k000k100", NONE);
        faultIs("k000v001", 6);
    }

    private void letters() {
        e.sentence(0, "(a letter, a figure that is none such");
        String letters = "kvsutw";
        for (int sign = -128; sign < 128; sign++) {
            boolean right = sign > 0 && letters.indexOf(sign) >= 0;
            // A blank there is one between items, so the figure behind it is the letter that is none.
            faultOfByte("the second letter", "k350k000", 4, sign, right ? NONE : sign == 32 ? 5 : 4);
            faultOfByte("the first letter", "k350k000", 0, sign, right ? NONE : sign == 32 ? 1 : 0);
        }
        faultOfByte("a letter, cut to a byte", "k350k000", 4, 107 + 256, NONE);
        faultOfByte("a letter and 128", "k350k000", 4, 107 + 128, 4);
    }

    private void figures() {
        e.sentence(0, "(a letter, a figure that is none such");
        for (int sign = -128; sign < 128; sign++) {
            faultOfByte("a LINE", "k350k?00", 5, sign, sign >= '0' && sign <= '3' ? NONE : 5);
            faultOfByte("a COLUMN", "k350k0?0", 6, sign, sign >= '0' && sign <= '5' ? NONE : 6);
            faultOfByte("a DELAY", "k350k00?", 7, sign, sign >= '0' && sign <= '9' ? NONE : 7);
        }
        faultIs("k400k4", 1);
        faultIs("k060k0", 2);
        faultIs("k00xk0", 3);
        faultIs("x000x", 0);
    }

    private void taken() {
        e.sentence(0, "the figure of a COLUMN where there is a KEY already");
        faultIs("k000k110k000", 10);
        faultIs("k000k110k110", 10);
        faultIs("k000k110k100", NONE);
        faultIs("k000k00", 6);
        faultIs("k000k00x", 6);
        faultIs("k000k000k4", 6);
        faultIs("k000v010s020u030t040w050k050", 26);
        faultIs("  k000  k000", 10);
    }

    private void eighth() {
        e.sentence(0, "an eighth KEY: its place");
        faultIs(SEVEN, NONE);
        faultIs(SEVEN + " ", NONE);
        faultIs(SEVEN + "k110", 28);
        faultIs(SEVEN + "   k110", 31);
        faultIs(SEVEN + "k", 28);
        faultIs(SEVEN + " k000", 29);
        faultIs(SEVEN + "x", 28);
        faultIs(SEVEN + " k110k120", 29);
        faultIs(SEVEN + " ".repeat(32), NONE);
        faultIs(SEVEN + " ".repeat(31) + "k", 59);
    }

    private void earlyEnd() {
        e.sentence(0, "the TEXT's size, if its end comes too early, or there are less than 2 KEYS, or blanks alone)");
        String two = "k000k110";
        for (int size = 0; size < two.length(); size++) {
            faultIs(two.substring(0, size), size);
        }
        faultIs("k000k110s", 9);
        faultIs("k000k110s2", 10);
        faultIs("k000k110s22", 11);
        faultIs("k000k110s220", NONE);
        faultIs(" ", 1);
        faultIs("  ", 2);
        faultIs(" ".repeat(60), 60);
        faultIs("k000 ", 5);
        faultIs("  k000  ", 8);
        faultIs("k000" + " ".repeat(56), 60);
        faultIs("k000" + " ".repeat(55) + "k", 60);
    }

    private void fault() {
        e.sentence(10, "A FAULT of a TEXT");
        e.answers("TEXT 1", Scenes::rich, x -> x.fault(1), 6);
        e.aside("TEXT 1", Scenes::rich, x -> x.fault(1));
        e.answers("an empty TEXT", Scenes.then(Scenes::rich, x -> x.text(3, 0)), x -> x.fault(3), 0);
        e.sentence(10, "NONE: there is none");
        e.refuses("TEXT 0", Scenes::rich, x -> x.fault(0), NONE);
        e.sentence(10, "BAD");
        for (int t : NO_TEXTS) {
            e.refuses("TEXT " + t + ": BAD, not NOTHING", Scenes::rich, x -> x.fault(t), BAD);
        }
        e.sentence(10, "NOTHING");
        e.finds("TEXT 2", Scenes::rich, x -> x.fault(2), NOTHING);
        e.answers("TEXT 2, then there", Scenes.then(Scenes::rich, x -> x.text(2, 1)), x -> x.fault(2), 1);
    }

    private void board() {
        e.sentence(11, "A BOARD by a TEXT (anew: as told at first, no DEEDS");
        Edges.Scene anew = Scenes.then(Scenes::full, x -> x.board(0));
        for (int what = 1; what <= 4; what++) {
            int c = what;
            e.answers("count " + what, anew, x -> x.count(c), 0);
        }
        for (int key = 0; key < 7; key++) {
            int i = key;
            e.tells("PRESSED " + key, anew, x -> x.key(i, 4), 1, 0);
            e.tells("HELD " + key, anew, x -> x.key(i, 5), 1, 0);
        }
        e.answers("a DEED again", anew, x -> x.press(0), 1);
        e.answers("no DEED to be undone", anew, x -> x.undo(1), BAD);
        e.tells("asked() stays", Scenes::rich, x -> x.board(0), 7, 3141);
        e.answers("ROWS stay", anew, x -> x.count(6), 4);
        e.answers("TEXTS stay", anew, x -> x.count(7), 3);
        e.answers("a KEY stays when its TEXT goes", Scenes.then(anew, x -> x.text(0, 0)), x -> x.count(0), 7);
        e.sentence(11, "kept BOARDS go): how many KEYS");
        e.answers("kept BOARDS", anew, x -> x.count(8), 0);
        for (int place = 0; place < 3; place++) {
            int k = place;
            e.finds("on " + place, anew, x -> x.on(k), NOTHING);
        }
        e.answers("two", Scenes.then(Scenes::rich, x -> Checks.write(x, 3, "k000k110")), x -> x.board(3), 2);
        e.answers("seven", Scenes::rich, x -> x.board(0), 7);
    }

    /** Of a greater board nothing is left behind on a smaller one. */
    private void boardBehindAnother() {
        e.sentence(11, "A BOARD by a TEXT (anew: as told at first, no DEEDS");
        String[] greater = {"k000 k110 v010 t100 s020 w120 u350", "u000 u010 u020 u100 u110 u120 u350"};
        for (String signs : greater) {
            Edges.Scene smaller = Scenes.of(signs, x -> {
                Checks.press(x, 0, 1, 2, 3, 4, 5, 6);
                Checks.scans(x, 3);
                x.row(1, 0);
                Checks.write(x, 1, Scenes.APART);
                x.board(1);
            });
            e.answers("VALVES", smaller, x -> x.count(9), 0);
            e.answers("SHY ones", smaller, x -> x.count(10), 0);
            e.answers("TOLD", smaller, x -> x.told(), 0);
            e.answers("LINE 3 READS", smaller, x -> x.reads(3), 0);
            e.answers("sets that are right", smaller, x -> x.right(), 4);
            e.answers("places", smaller, x -> x.places(0, 1), 23);
            e.refuses("KEY 2", smaller, x -> x.key(2, 0), BAD);
            e.refuses("a KEY of 2", smaller, x -> x.press(2), BAD);
            e.refuses("a set of 2", smaller, x -> x.would(4), BAD);
        }
    }

    private void boardRefused() {
        e.sentence(11, "BAD");
        for (int t : NO_TEXTS) {
            e.refuses("TEXT " + t + ": BAD, not NOTHING", Scenes::full, x -> x.board(t), BAD);
        }
        e.sentence(11, "NOTHING");
        e.finds("TEXT 2", Scenes::full, x -> x.board(2), NOTHING);
        e.finds("TEXT 2, without KEYS", Scenes::bare, x -> x.board(2), NOTHING);
        e.sentence(11, "STATE: a FAULT");
        e.refuses("TEXT 1", Scenes::full, x -> x.board(1), STATE);
        e.refuses("TEXT 1, without KEYS", Scenes::bare, x -> x.board(1), STATE);
        e.refuses("an empty TEXT", Scenes.then(Scenes::full, x -> x.text(1, 0)), x -> x.board(1), STATE);
        e.refuses("a FAULT at place 0", Scenes.then(Scenes::full, x -> x.put(0, 0, 'x')), x -> x.board(0), STATE);
        e.sentence(11, "(STATE behind NOTHING.)");
        e.finds("a TEXT that is missing has a FINDING", Scenes::fresh, x -> x.board(0), NOTHING);
    }

    private void key() {
        e.sentence(12, "4 whether it is PRESSED (1, 0), 5 for how many SCANS it is HELD, 6 whether it CONDUCTS, 7 whether"
            + " it is TOLD, told by asked(): 1");
        int[][] want = {{0, 0, 0, 1, 1, 2, 1, 1}, {1, 1, 1, 2, 1, 0, 1, 1}, {2, 2, 2, 0, 0, 0, 0, 0},
            {3, 3, 3, 2, 1, 0, 1, 1}, {4, 0, 4, 3, 1, 1, 0, 0}, {5, 1, 5, 1, 1, 0, 1, 1}, {0, 3, 0, 0, 0, 0, 0, 0}};
        for (int key = 0; key < 7; key++) {
            for (int what = 0; what < 8; what++) {
                int i = key;
                int fact = what;
                e.tells("KEY " + key + ", " + what, Scenes::rich, x -> x.key(i, fact), 1, want[key][what]);
                e.aside("KEY " + key + ", " + what, Scenes::rich, x -> x.key(i, fact));
            }
        }
        Edges.Scene severed = Scenes.of("k000 k110", x -> {
            x.press(0);
            x.cut(0);
        });
        e.tells("on a CUT LINE it CONDUCTS", severed, x -> x.key(0, 6), 1, 1);
        e.tells("on a CUT LINE it is not TOLD", severed, x -> x.key(0, 7), 1, 0);
        Edges.Scene ghost = Scenes.of(Scenes.SQUARE, x -> Checks.press(x, 0, 1, 2));
        e.tells("a GHOST does not CONDUCT", ghost, x -> x.key(3, 6), 1, 0);
        e.tells("a GHOST is TOLD", ghost, x -> x.key(3, 7), 1, 1);
    }

    private void keyRefused() {
        e.sentence(12, "BAD");
        for (int i : new int[] {MIN, -1, 7, 8, MAX}) {
            for (int what : new int[] {-1, 0, 7, 8}) {
                e.refuses("KEY " + i + " of 7, " + what, Scenes::rich, x -> x.key(i, what), BAD);
            }
        }
        for (int what : new int[] {MIN, -1, 8, 9, MAX}) {
            e.refuses("KEY 0, " + what, Scenes::rich, x -> x.key(0, what), BAD);
            e.refuses("KEY 6, " + what, Scenes::rich, x -> x.key(6, what), BAD);
        }
        e.refuses("KEY 2 of 2", Scenes.of(Scenes.APART), x -> x.key(2, 0), BAD);
        e.answers("KEY 1 of 2", Scenes.of(Scenes.APART), x -> x.key(1, 0), 1);
        e.refuses("without KEYS", Scenes::bare, x -> x.key(0, 0), BAD);
    }

    private void markRefused() {
        e.sentence(13, "BAD: also KIND 0");
        for (int kind : new int[] {MIN, -1, 0, 6, 7, MAX}) {
            for (int key = -1; key <= 7; key++) {
                int i = key;
                e.refuses("KEY " + key + ", KIND " + kind + ": BAD, not UNLIKE", Scenes::rich, x -> x.mark(i, kind), BAD);
            }
        }
        for (int kind = 1; kind < 6; kind++) {
            int k = kind;
            for (int i : new int[] {MIN, -1, 7, 8, MAX}) {
                e.refuses("KEY " + i + ", KIND " + kind, Scenes::rich, x -> x.mark(i, k), BAD);
            }
            e.refuses("without KEYS, KIND " + kind, Scenes::bare, x -> x.mark(0, k), BAD);
        }
        e.sentence(13, "UNLIKE");
        for (int key = 0; key < 7; key++) {
            for (int kind = 1; kind < 6; kind++) {
                int i = key;
                int k = kind;
                String what = "KEY " + key + ", KIND " + kind;
                if (java.util.Arrays.stream(IS[key]).anyMatch(is -> is == k)) {
                    e.aside(what, Scenes::rich, x -> x.mark(i, k));
                    e.tells(what + ", asked() stays", Scenes::rich, x -> Math.min(0, x.mark(i, k)), 0, 3141);
                } else {
                    e.finds(what, Scenes::rich, x -> x.mark(i, k), UNLIKE);
                }
            }
        }
    }

    private void markValve() {
        e.sentence(13, "a VALVE (TIGHT, too) how many more KEYS would be TOLD, were it a KEY alike, and 10");
        Edges.Scene valve = Scenes.of("v000 k010 k100 k110");
        e.answers("not PRESSED: none more", valve, x -> x.mark(0, 1), 10);
        e.answers("PRESSED alone: none more", Scenes.then(valve, x -> x.press(0)), x -> x.mark(0, 1), 10);
        Edges.Scene three = Scenes.then(valve, x -> Checks.press(x, 0, 1, 2));
        e.answers("one more", three, x -> x.mark(0, 1), 11);
        e.answers("its LINE is CUT: none more", Scenes.then(three, x -> x.cut(0)), x -> x.mark(0, 1), 10);
        // Line 1 comes to column 0; a KEY would lead it on to line 0 and its columns 1, 2, where two ghosts sit.
        Edges.Scene many = Scenes.of("v000 k010 k020 k100 k110 k120", x -> Checks.press(x, 0, 1, 2, 3));
        e.answers("two more", many, x -> x.mark(0, 1), 12);
        Edges.Scene tight = Scenes.of("t002 k010 k100 k110", x -> Checks.press(x, 0, 1, 2));
        // Not yet HELD for 2 it does not conduct; a KEY would, and with it the ghost.
        e.answers("TIGHT, HELD for 1", Scenes.then(tight, x -> x.scan()), x -> x.mark(0, 1), 12);
        e.answers("TIGHT, HELD for 2", Scenes.then(tight, x -> Checks.scans(x, 2)), x -> x.mark(0, 1), 11);
        e.answers("TIGHT, let go", Scenes.then(tight, x -> x.press(0)), x -> x.mark(0, 1), 10);
    }

    private void markShy() {
        e.sentence(13, "a SHY one (WORN, too) in how many of the 8 SCANS from now on it would CONDUCT, PRESSED");
        for (int scans = 0; scans < 12; scans++) {
            int s = scans;
            Edges.Scene scene = Scenes.of("s000 w110 w121 w132 w149 k200", x -> Checks.scans(x, s));
            e.answers("SHY from " + scans, scene, x -> x.mark(0, 2), 4);
            e.answers("WORN 0 from " + scans, scene, x -> x.mark(1, 2), 4);
            e.answers("WORN 1 from " + scans, scene, x -> x.mark(2, 2), 4);
            e.answers("WORN 2 from " + scans, scene, x -> x.mark(3, 2), multiples(6, scans));
            e.answers("WORN 9 from " + scans, scene, x -> x.mark(4, 2), multiples(10, scans));
            Edges.Scene pressed = Scenes.then(scene, x -> Checks.press(x, 0, 3));
            e.answers("SHY from " + scans + ", PRESSED now", pressed, x -> x.mark(0, 2), 4);
            e.answers("WORN 2 from " + scans + ", PRESSED now", pressed, x -> x.mark(3, 2), multiples(6, scans));
            e.answers("WORN 2 from " + scans + ", CUT", Scenes.then(scene, x -> x.cut(1)), x -> x.mark(3, 2),
                multiples(6, scans));
        }
    }

    /** How many multiples there are among 8 numbers from one on. */
    private static int multiples(int of, int from) {
        int many = 0;
        for (int s = from; s < from + 8; s++) {
            many += s % of == 0 ? 1 : 0;
        }
        return many;
    }

    private void markStuck() {
        e.sentence(13, "a STUCK one how many fewer would be TOLD, were it a KEY alike, and 10");
        Edges.Scene stuck = Scenes.of("u000 k010 k100 k110");
        e.answers("itself", stuck, x -> x.mark(0, 3), 11);
        e.answers("PRESSED: none fewer", Scenes.then(stuck, x -> x.press(0)), x -> x.mark(0, 3), 10);
        e.answers("itself and a ghost", Scenes.then(stuck, x -> Checks.press(x, 1, 2)), x -> x.mark(0, 3), 12);
        e.answers("TOLD anyhow", Scenes.then(stuck, x -> Checks.press(x, 1, 2, 3)), x -> x.mark(0, 3), 10);
        e.answers("its LINE is CUT", Scenes.then(stuck, x -> x.cut(0)), x -> x.mark(0, 3), 10);
    }

    private void markTight() {
        e.sentence(13, "a TIGHT one for how many SCANS it must still be HELD (0: for none)");
        for (int delay = 0; delay <= 9; delay++) {
            Edges.Scene tight = Scenes.of("t00" + delay + " k110");
            e.answers("DELAY " + delay + ", not PRESSED", tight, x -> x.mark(0, 4), delay);
            e.answers("DELAY " + delay + ", not PRESSED, later", Scenes.then(tight, x -> Checks.scans(x, 3)),
                x -> x.mark(0, 4), delay);
            for (int scans = 0; scans <= 11; scans++) {
                int s = scans;
                Edges.Scene held = Scenes.then(tight, x -> {
                    x.press(0);
                    Checks.scans(x, s);
                });
                e.answers("DELAY " + delay + ", " + scans + " SCANS", held, x -> x.mark(0, 4), Math.max(0, delay - scans));
            }
        }
    }

    private void markWorn() {
        e.sentence(13, "a WORN one in how many of those 8 it would not, where a SHY one alike would");
        for (int scans = 0; scans < 12; scans++) {
            int s = scans;
            Edges.Scene scene = Scenes.of("w110 w121 w132 w149", x -> Checks.scans(x, s));
            e.answers("DELAY 0 from " + scans, scene, x -> x.mark(0, 5), 0);
            e.answers("DELAY 1 from " + scans, scene, x -> x.mark(1, 5), 0);
            e.answers("DELAY 2 from " + scans, scene, x -> x.mark(2, 5), 4 - multiples(6, scans));
            e.answers("DELAY 9 from " + scans, scene, x -> x.mark(3, 5), 4 - multiples(10, scans));
        }
    }

    private void reads() {
        e.sentence(14, "COLUMNS (bits) that a LINE READS");
        e.answers("without KEYS, LINE 0", Scenes::bare, x -> x.reads(0), 0);
        e.answers("without KEYS, LINE 3", Scenes::bare, x -> x.reads(3), 0);
        Edges.Scene six = Scenes.of("k000 k010 k020 k030 k040 k050 k350");
        e.answers("no COLUMN", six, x -> x.reads(0), 0);
        e.answers("COLUMN 0", Scenes.then(six, x -> x.press(0)), x -> x.reads(0), 1);
        e.answers("COLUMN 5", Scenes.then(six, x -> x.press(5)), x -> x.reads(0), 32);
        Edges.Scene all = Scenes.then(six, x -> Checks.press(x, 0, 1, 2, 3, 4, 5));
        e.answers("all COLUMNS", all, x -> x.reads(0), 63);
        e.answers("LINE 3, none", all, x -> x.reads(3), 0);
        e.answers("LINE 3, all", Scenes.then(all, x -> x.press(6)), x -> x.reads(3), 63);
        e.answers("a CUT LINE, none", Scenes.then(all, x -> x.cut(0)), x -> x.reads(0), 0);
        e.tells("asked() stays", Scenes::rich, x -> x.reads(0), 1, 3141);
        e.aside("reads", Scenes::rich, x -> x.reads(0));
        e.sentence(14, "BAD");
        for (int l : new int[] {MIN, -1, 4, 5, MAX}) {
            e.refuses("LINE " + l, Scenes::rich, x -> x.reads(l), BAD);
            e.refuses("LINE " + l + ", without KEYS", Scenes::bare, x -> x.reads(l), BAD);
        }
    }
}
