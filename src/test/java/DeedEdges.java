/** Promises 15 to 20: deeds, undone, kept, gone on from. Scenes.rich() has 8 DEEDS, Scenes.full() has 40. */
final class DeedEdges {
    private static final int BAD = Edges.BAD, FULL = Edges.FULL, STATE = Edges.STATE, MIN = Edges.MIN, MAX = Edges.MAX;
    private static final int NOTHING = Edges.NOTHING;
    private static final int[] NO_KEYS = {MIN, -1, 7, 8, MAX};
    private static final int[] NO_LINES = {MIN, -1, 4, 5, MAX};
    private static final int[] NO_KEPT = {MIN, -1, 3, 4, MAX};

    private final Edges e;

    DeedEdges(Edges e) {
        this.e = e;
    }

    void run() {
        press();
        pressRefused();
        scan();
        scanRefused();
        cut();
        cutRefused();
        undo();
        undoRefused();
        keep();
        on();
        onRefused();
    }

    private static StrayKeys nearlyFull() {
        return Scenes.withDeeds(Scenes.rich(), 39);
    }

    private void press() {
        e.sentence(15, "A KEY is PRESSED, or let go: how many are PRESSED");
        Edges.Scene two = Scenes.of(Scenes.APART);
        e.answers("the first KEY", two, x -> x.press(0), 1);
        e.answers("the last KEY", two, x -> x.press(1), 1);
        e.answers("both", Scenes.then(two, x -> x.press(0)), x -> x.press(1), 2);
        e.answers("let go, none left", Scenes.then(two, x -> x.press(0)), x -> x.press(0), 0);
        e.answers("let go, one left", Scenes.then(two, x -> Checks.press(x, 0, 1)), x -> x.press(0), 1);
        e.answers("all seven", Scenes.of(Scenes.ALL_KINDS, x -> Checks.press(x, 0, 1, 2, 3, 4, 5)), x -> x.press(6), 7);
        e.answers("a STUCK one that is not PRESSED does not count", Scenes.of("u000 k110"), x -> x.press(1), 1);
        e.tells("asked() stays", Scenes::rich, x -> x.press(6), 6, 3141);
    }

    private void pressRefused() {
        e.sentence(15, "BAD");
        for (int i : NO_KEYS) {
            e.refuses("KEY " + i + " of 7", Scenes::rich, x -> x.press(i), BAD);
        }
        e.refuses("KEY 2 of 2", Scenes.of(Scenes.APART), x -> x.press(2), BAD);
        e.refuses("KEY 0 without KEYS", Scenes::bare, x -> x.press(0), BAD);
        e.sentence(15, "FULL: 40 DEEDS");
        e.answers("39 of them", Scenes.then(DeedEdges::nearlyFull, x -> x.press(0)), x -> x.count(2), 40);
        for (int key = 0; key < 7; key++) {
            int i = key;
            e.refuses("40 of them, KEY " + key, Scenes::full, x -> x.press(i), FULL);
        }
        e.sentence(15, "(FULL last.)");
        for (int i : NO_KEYS) {
            e.refuses("KEY " + i + ", 40 DEEDS: BAD, not FULL", Scenes::full, x -> x.press(i), BAD);
        }
    }

    private void scan() {
        e.sentence(16, "A SCAN goes by: how many were TOLD in it");
        Edges.Scene square = Scenes.of(Scenes.SQUARE);
        e.answers("none", square, x -> x.scan(), 0);
        e.answers("one", Scenes.then(square, x -> x.press(3)), x -> x.scan(), 1);
        e.answers("a GHOST, too", Scenes.then(square, x -> Checks.press(x, 0, 1, 2)), x -> x.scan(), 4);
        Edges.Scene shy = Scenes.of("s000 k110", x -> x.press(0));
        e.answers("a SHY one in SCAN 0", shy, x -> x.scan(), 1);
        e.answers("a SHY one in SCAN 1", Scenes.then(shy, x -> x.scan()), x -> x.scan(), 0);
        e.answers("a SHY one in SCAN 2", Scenes.then(shy, x -> Checks.scans(x, 2)), x -> x.scan(), 1);
        Edges.Scene tight = Scenes.of("t001 k110", x -> x.press(0));
        e.answers("a TIGHT one, HELD for 0", tight, x -> x.scan(), 0);
        e.answers("a TIGHT one, HELD for 1", Scenes.then(tight, x -> x.scan()), x -> x.scan(), 1);
        e.answers("the SCAN", Scenes.then(square, x -> Checks.scans(x, 40)), x -> x.count(1), 40);
        e.tells("asked() stays", Scenes::rich, x -> x.scan(), 4, 3141);
    }

    private void scanRefused() {
        e.sentence(16, "STATE: no KEYS");
        e.refuses("a new object", Scenes::fresh, x -> x.scan(), STATE);
        e.refuses("ROWS, TEXTS alone", Scenes::bare, x -> x.scan(), STATE);
        e.refuses("a BOARD was refused", Scenes.then(Scenes::bare, x -> x.board(1)), x -> x.scan(), STATE);
        e.sentence(16, "FULL");
        e.answers("39 DEEDS", Scenes.then(DeedEdges::nearlyFull, x -> x.scan()), x -> x.count(2), 40);
        e.refuses("40 DEEDS", Scenes::full, x -> x.scan(), FULL);
        e.refuses("40 SCANS", Scenes.of(Scenes.SQUARE, x -> Checks.scans(x, 40)), x -> x.scan(), FULL);
        e.sentence(16, "(FULL last.)");
        // Without KEYS there are no DEEDS: STATE and FULL never fit together.
        e.answers("a BOARD anew has room", Scenes.then(Scenes::full, x -> x.board(0)), x -> x.scan(), 1);
    }

    private void cut() {
        e.sentence(17, "A LINE is CUT, or joined: how many are CUT");
        Edges.Scene square = Scenes.of(Scenes.SQUARE);
        e.answers("the first LINE", square, x -> x.cut(0), 1);
        e.answers("the last LINE", square, x -> x.cut(3), 1);
        e.answers("all", Scenes.then(square, x -> Checks.cuts(x, 0, 1, 2)), x -> x.cut(3), 4);
        e.answers("joined, three left", Scenes.then(square, x -> Checks.cuts(x, 0, 1, 2, 3)), x -> x.cut(3), 3);
        e.answers("joined, none left", Scenes.then(square, x -> x.cut(2)), x -> x.cut(2), 0);
        e.tells("asked() stays", Scenes::rich, x -> x.cut(0), 2, 3141);
    }

    private void cutRefused() {
        e.sentence(17, "BAD");
        for (int l : NO_LINES) {
            e.refuses("LINE " + l, Scenes::rich, x -> x.cut(l), BAD);
            e.refuses("LINE " + l + " without KEYS: BAD, not STATE", Scenes::bare, x -> x.cut(l), BAD);
        }
        e.sentence(17, "STATE: no KEYS");
        for (int line = 0; line < 4; line++) {
            int l = line;
            e.refuses("LINE " + line, Scenes::bare, x -> x.cut(l), STATE);
        }
        e.refuses("a new object", Scenes::fresh, x -> x.cut(0), STATE);
        e.sentence(17, "FULL");
        e.answers("39 DEEDS", Scenes.then(DeedEdges::nearlyFull, x -> x.cut(0)), x -> x.count(2), 40);
        e.refuses("40 DEEDS", Scenes::full, x -> x.cut(0), FULL);
        e.refuses("40 DEEDS, a LINE that is CUT", Scenes::full, x -> x.cut(2), FULL);
        e.sentence(17, "(FULL last.)");
        for (int l : NO_LINES) {
            e.refuses("LINE " + l + ", 40 DEEDS: BAD, not FULL", Scenes::full, x -> x.cut(l), BAD);
        }
    }

    private void undo() {
        e.sentence(18, "DEEDS from number n on are undone: how many");
        for (int n = 0; n <= 8; n++) {
            int from = n;
            e.answers("of 8, from " + n, Scenes::rich, x -> x.undo(from), 8 - n);
            e.answers("of 8, from " + n + ", then", Scenes.then(Scenes::rich, x -> x.undo(from)), x -> x.count(2), n);
        }
        e.answers("of 40, none", Scenes::full, x -> x.undo(40), 0);
        e.answers("of 40, the last", Scenes::full, x -> x.undo(39), 1);
        e.answers("of 40, all", Scenes::full, x -> x.undo(0), 40);
        e.answers("of none", Scenes::fresh, x -> x.undo(0), 0);
        e.answers("of none, with KEYS", Scenes.of(Scenes.SQUARE), x -> x.undo(0), 0);
        // The deeds of rich(): press 0, scan, press 4, cut 2, scan, press 1, 3, 5.
        int[][] want = {{0, 0, 0, 0}, {0, 1, 0, 0}, {1, 1, 0, 1}, {1, 17, 0, 1}, {1, 17, 4, 1}, {2, 17, 4, 2},
            {2, 19, 4, 2}, {2, 27, 4, 2}, {2, 59, 4, 2}};
        for (int n = 0; n <= 8; n++) {
            int from = n;
            Edges.Scene undone = Scenes.then(Scenes::rich, x -> x.undo(from));
            e.answers("from " + n + ", the SCAN", undone, x -> x.count(1), want[n][0]);
            e.answers("from " + n + ", PRESSED", undone, x -> x.count(3), want[n][1]);
            e.answers("from " + n + ", CUT", undone, x -> x.count(4), want[n][2]);
            e.tells("from " + n + ", HELD", undone, x -> x.key(0, 5), 1, want[n][3]);
            e.answers("from " + n + ", kept BOARDS stay", undone, x -> x.count(8), 2);
        }
        letGoUndone();
    }

    /** A key that was let go is held again for as long as it was. */
    private void letGoUndone() {
        Edges.Scene held = Scenes.of("t003 k110", x -> {
            x.press(0);
            Checks.scans(x, 3);
            x.press(0);
        });
        e.tells("let go", held, x -> x.key(0, 5), 1, 0);
        e.tells("let go, undone", Scenes.then(held, x -> x.undo(4)), x -> x.key(0, 5), 1, 3);
        Edges.Scene joined = Scenes.of(Scenes.SQUARE, x -> Checks.cuts(x, 1, 1));
        e.answers("joined, undone", Scenes.then(joined, x -> x.undo(1)), x -> x.count(4), 2);
        Edges.Scene most = Scenes.of(Scenes.SQUARE, x -> {
            x.press(0);
            Checks.scans(x, 12);
        });
        e.tells("HELD for 9 at most, then undone", Scenes.then(most, x -> x.undo(9)), x -> x.key(0, 5), 1, 8);
    }

    private void undoRefused() {
        e.sentence(18, "BAD");
        for (int n : new int[] {MIN, -1, 9, 10, MAX}) {
            e.refuses("of 8, from " + n, Scenes::rich, x -> x.undo(n), BAD);
        }
        for (int n : new int[] {-1, 41, 42}) {
            e.refuses("of 40, from " + n, Scenes::full, x -> x.undo(n), BAD);
        }
        for (int n : new int[] {-1, 1}) {
            e.refuses("of none, from " + n, Scenes.of(Scenes.SQUARE), x -> x.undo(n), BAD);
            e.refuses("without KEYS, from " + n, Scenes::bare, x -> x.undo(n), BAD);
        }
    }

    private void keep() {
        e.sentence(19, "The BOARD (as it is, DEEDS) is kept in a place (0 .. 2): how many DEEDS");
        for (int place = 0; place < 3; place++) {
            int k = place;
            e.answers("at " + place, Scenes::rich, x -> x.keep(k), 8);
            e.answers("at " + place + ", how many", Scenes.then(Scenes::rich, x -> x.keep(k)), x -> x.count(8),
                place == 1 ? 3 : 2);
            e.answers("at " + place + ", no DEEDS", Scenes.of(Scenes.SQUARE), x -> x.keep(k), 0);
            e.answers("at " + place + ", 40 DEEDS", Scenes::full, x -> x.keep(k), 40);
            e.answers("at " + place + ", the BOARD stays", Scenes.then(Scenes::rich, x -> x.keep(k)), x -> x.count(2), 8);
        }
        e.sentence(19, "BAD");
        for (int k : NO_KEPT) {
            e.refuses("at " + k, Scenes::rich, x -> x.keep(k), BAD);
            e.refuses("at " + k + " without KEYS: BAD, not STATE", Scenes::bare, x -> x.keep(k), BAD);
        }
        e.sentence(19, "STATE: no KEYS");
        for (int place = 0; place < 3; place++) {
            int k = place;
            e.refuses("at " + place, Scenes::bare, x -> x.keep(k), STATE);
        }
        e.refuses("a new object", Scenes::fresh, x -> x.keep(0), STATE);
    }

    private void on() {
        e.sentence(20, "The BOARD is as it was kept: how many DEEDS");
        e.answers("at 0", Scenes::rich, x -> x.on(0), 2);
        e.answers("at 2", Scenes::rich, x -> x.on(2), 5);
        // At 2 was kept: press 0, scan, press 4, cut 2, scan.
        Edges.Scene second = Scenes.then(Scenes::rich, x -> x.on(2));
        e.answers("the SCAN", second, x -> x.count(1), 2);
        e.answers("DEEDS", second, x -> x.count(2), 5);
        e.answers("PRESSED", second, x -> x.count(3), 17);
        e.answers("CUT", second, x -> x.count(4), 4);
        e.tells("HELD", second, x -> x.key(0, 5), 1, 2);
        e.tells("HELD for less", second, x -> x.key(4, 5), 1, 1);
        e.answers("kept BOARDS stay", second, x -> x.count(8), 2);
        e.answers("again", Scenes.then(second, x -> Checks.press(x, 1, 2)), x -> x.on(2), 5);
        e.answers("what is done then is not kept", Scenes.then(second, x -> {
            Checks.press(x, 1, 2);
            x.undo(1);
        }), x -> x.on(2), 5);
        e.answers("its DEEDS are undone", second, x -> x.undo(1), 4);
        Edges.Scene over = Scenes.then(Scenes::rich, x -> {
            x.on(0);
            x.keep(2);
        });
        e.answers("kept over another one", over, x -> x.on(2), 2);
        Edges.Scene forty = Scenes.then(Scenes::full, x -> {
            x.keep(1);
            x.undo(0);
        });
        e.answers("40 DEEDS", forty, x -> x.on(1), 40);
        e.refuses("40 DEEDS, one more", Scenes.then(forty, x -> x.on(1)), x -> x.scan(), FULL);
        Edges.Scene none = Scenes.of(Scenes.SQUARE, x -> {
            x.keep(1);
            Checks.press(x, 0, 1, 2);
        });
        e.answers("no DEEDS", none, x -> x.on(1), 0);
        e.answers("no DEEDS, PRESSED", Scenes.then(none, x -> x.on(1)), x -> x.count(3), 0);
        e.tells("asked() stays", Scenes::rich, x -> x.on(2), 5, 3141);
    }

    private void onRefused() {
        e.sentence(20, "BAD");
        for (int k : NO_KEPT) {
            e.refuses("at " + k + ": BAD, not NOTHING", Scenes::rich, x -> x.on(k), BAD);
            e.refuses("at " + k + " without KEYS", Scenes::bare, x -> x.on(k), BAD);
        }
        e.sentence(20, "NOTHING");
        e.finds("at 1", Scenes::rich, x -> x.on(1), NOTHING);
        for (int place = 0; place < 3; place++) {
            int k = place;
            e.finds("at " + place + " without KEYS: NOTHING, not STATE", Scenes::bare, x -> x.on(k), NOTHING);
            e.finds("at " + place + ", a new BOARD", Scenes.of(Scenes.SQUARE), x -> x.on(k), NOTHING);
            e.finds("at " + place + ", a BOARD anew", Scenes.then(Scenes::rich, x -> x.board(0)), x -> x.on(k), NOTHING);
        }
    }
}
