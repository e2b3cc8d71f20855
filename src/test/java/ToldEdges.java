/** Promises 21 to 28: what is told, and of which sets. */
final class ToldEdges {
    private static final int BAD = Edges.BAD, STATE = Edges.STATE, NONE = Edges.NONE, MIN = Edges.MIN, MAX = Edges.MAX;
    private static final int[] NO_KEYS = {MIN, -1, 7, 8, MAX};
    private static final String VALVES = "v000 v010 v100 v110";
    /** Six keys round over three lines and three columns. */
    private static final String RING = "k000 k010 k110 k120 k220 k200";
    private static final String SEVEN_STUCK = "u000 u010 u020 u100 u110 u120 u350";

    private final Edges e;

    ToldEdges(Edges e) {
        this.e = e;
    }

    void run() {
        told();
        ghosts();
        later();
        laterDifferent();
        laterRefused();
        would();
        wouldRefused();
        haunts();
        hauntsRefused();
        right();
        alike();
        best();
        withoutKeys();
    }

    private void told() {
        e.sentence(21, "KEYS (bits) that are TOLD now");
        e.answers("without KEYS", Scenes::bare, x -> x.told(), 0);
        e.answers("none", Scenes.of(Scenes.SQUARE), x -> x.told(), 0);
        e.answers("all seven", Scenes.of(SEVEN_STUCK), x -> x.told(), 127);
        e.answers("on a CUT LINE", Scenes.of(SEVEN_STUCK, x -> x.cut(3)), x -> x.told(), 63);
        e.sentence(21, "how many GHOSTS there are by asked()");
        e.tells("without KEYS", Scenes::bare, x -> x.told(), 0, 0);
        e.tells("seven", Scenes.of(SEVEN_STUCK), x -> x.told(), 127, 7);
        e.tells("six", Scenes.of(SEVEN_STUCK, x -> x.press(6)), x -> x.told(), 127, 6);
        e.tells("none", Scenes.of(Scenes.SQUARE, x -> Checks.press(x, 0, 1, 2, 3)), x -> x.told(), 15, 0);
        e.tells("MISSED is no GHOST", Scenes.of("s000 u110", x -> {
            x.press(0);
            x.scan();
        }), x -> x.told(), 2, 1);
    }

    private void ghosts() {
        e.sentence(22, "GHOSTS (bits)");
        e.answers("without KEYS", Scenes::bare, x -> x.ghosts(), 0);
        e.answers("none", Scenes.of(Scenes.SQUARE, x -> Checks.press(x, 0, 1)), x -> x.ghosts(), 0);
        e.answers("one", Scenes.of(Scenes.SQUARE, x -> Checks.press(x, 0, 1, 2)), x -> x.ghosts(), 8);
        e.answers("seven", Scenes.of(SEVEN_STUCK), x -> x.ghosts(), 127);
        e.sentence(22, "KEYS that are MISSED (bits) by asked()");
        e.tells("without KEYS", Scenes::bare, x -> x.ghosts(), 0, 0);
        e.tells("none", Scenes.of(Scenes.SQUARE, x -> Checks.press(x, 0, 1, 2)), x -> x.ghosts(), 8, 0);
        e.tells("a SHY one in SCAN 1", Scenes.of("s000 u110", x -> {
            x.press(0);
            x.scan();
        }), x -> x.ghosts(), 2, 1);
        e.tells("all", Scenes.of(Scenes.SQUARE, x -> {
            Checks.press(x, 0, 1, 2, 3);
            Checks.cuts(x, 0, 1);
        }), x -> x.ghosts(), 0, 15);
    }

    private void later() {
        e.sentence(23, "KEYS (bits) that would be TOLD behind n (0 .. 20) SCANS, nothing else done");
        Edges.Scene tight = Scenes.of("t009 s110", x -> Checks.press(x, 0, 1));
        for (int n = 0; n <= 20; n++) {
            int scans = n;
            int want = (n >= 9 ? 1 : 0) + (n % 2 == 0 ? 2 : 0);
            e.answers("behind " + n, tight, x -> x.later(scans), want);
            e.answers("one SCAN on, behind " + n, Scenes.then(tight, x -> x.scan()), x -> x.later(scans),
                (n >= 8 ? 1 : 0) + (n % 2 == 1 ? 2 : 0));
        }
        e.aside("behind 0", Scenes::rich, x -> x.later(0));
        e.aside("behind 20", Scenes::rich, x -> x.later(20));
        e.aside("behind 20, though there are 40 DEEDS", Scenes::full, x -> x.later(20));
        e.answers("on a CUT LINE", Scenes.then(tight, x -> x.cut(1)), x -> x.later(20), 1);
        e.answers("on the other LINE that is CUT", Scenes.then(tight, x -> x.cut(0)), x -> x.later(20), 2);
        e.answers("not PRESSED, it is not HELD", Scenes.of("t001 k110"), x -> x.later(20), 0);
    }

    private void laterDifferent() {
        e.sentence(23, "how many different sets were TOLD from now on till then by asked()");
        Edges.Scene tight = Scenes.of("t009 s110", x -> Checks.press(x, 0, 1));
        // 0: SHY, 1: none, and so on by turns; 9: TIGHT, 10: both.
        int[] want = {1, 2, 2, 2, 2, 2, 2, 2, 2, 3, 4, 4, 4, 4, 4, 4, 4, 4, 4, 4, 4};
        for (int n = 0; n <= 20; n++) {
            int scans = n;
            e.tells("behind " + n, tight, x -> Math.min(0, x.later(scans)), 0, want[n]);
        }
        e.tells("always the same", Scenes.of(Scenes.SQUARE), x -> x.later(20), 0, 1);
    }

    private void laterRefused() {
        e.sentence(23, "BAD");
        for (int n : new int[] {MIN, -1, 21, 22, MAX}) {
            e.refuses("n " + n, Scenes::rich, x -> x.later(n), BAD);
            e.refuses("n " + n + " without KEYS: BAD, not STATE", Scenes::bare, x -> x.later(n), BAD);
        }
        e.sentence(23, "STATE: no KEYS");
        e.refuses("n 0", Scenes::bare, x -> x.later(0), STATE);
        e.refuses("n 20", Scenes::fresh, x -> x.later(20), STATE);
    }

    private void would() {
        e.sentence(24, "KEYS (bits) that would be TOLD now, if just those of a set (0 .. as many as are there) were PRESSED");
        e.answers("of two, none", Scenes.of(Scenes.APART, x -> x.press(0)), x -> x.would(0), 0);
        e.answers("of two, all", Scenes.of(Scenes.APART, x -> x.press(0)), x -> x.would(3), 3);
        e.answers("of two, another one", Scenes.of(Scenes.APART, x -> x.press(0)), x -> x.would(2), 2);
        e.answers("of seven, none", Scenes.of(SEVEN_STUCK), x -> x.would(0), 127);
        e.answers("of seven, all", Scenes.of(SEVEN_STUCK), x -> x.would(127), 127);
        e.tells("asked() stays", Scenes::rich, x -> Math.min(0, x.would(5)), 0, 3141);
        int[] square = {0, 1, 2, 3, 4, 5, 6, 15, 8, 9, 10, 15, 12, 15, 15, 15};
        for (int k = 0; k < 16; k++) {
            int set = k;
            e.answers("of four, " + k, Scenes.of(Scenes.SQUARE), x -> x.would(set), square[k]);
        }
        e.sentence(24, "(HELD for as many SCANS as they are)");
        Edges.Scene tight = Scenes.of("t002 t100", x -> x.press(0));
        e.answers("HELD for 0 of 2", tight, x -> x.would(1), 0);
        e.answers("HELD for 1 of 2", Scenes.then(tight, x -> x.scan()), x -> x.would(1), 0);
        e.answers("HELD for 2 of 2", Scenes.then(tight, x -> Checks.scans(x, 2)), x -> x.would(1), 1);
        e.answers("not PRESSED, HELD for 0 of 0", tight, x -> x.would(2), 2);
        e.answers("let go, HELD for 0 of 2", Scenes.then(tight, x -> {
            Checks.scans(x, 2);
            x.press(0);
        }), x -> x.would(1), 0);
    }

    private void wouldRefused() {
        e.sentence(24, "BAD");
        for (int set : new int[] {MIN, -1, 128, 129, 255, MAX}) {
            e.refuses("of seven, " + set, Scenes::rich, x -> x.would(set), BAD);
        }
        for (int set : new int[] {-1, 4, 5}) {
            e.refuses("of two, " + set, Scenes.of(Scenes.APART), x -> x.would(set), BAD);
        }
        for (int set : new int[] {-1, 1, 2}) {
            e.refuses("without KEYS, " + set + ": BAD, not STATE", Scenes::bare, x -> x.would(set), BAD);
        }
        e.sentence(24, "STATE: no KEYS");
        e.refuses("none of none", Scenes::bare, x -> x.would(0), STATE);
    }

    private void haunts() {
        e.sentence(25, "The fewest KEYS, not it, that, PRESSED alone, make a GHOST of a KEY (bits");
        // The ring needs all five others; with a key across it, three do.
        e.answers("five", Scenes.of(RING), x -> x.haunts(0), 62);
        e.answers("five, the last", Scenes.of(RING), x -> x.haunts(5), 31);
        e.answers("three, not five", Scenes.of(RING + " k100"), x -> x.haunts(0), 2 + 4 + 64);
        e.answers("two", Scenes.of("u000 k010 k100 k110"), x -> x.haunts(3), 6);
        e.answers("one", Scenes.of("u000 u010 k100 k110"), x -> x.haunts(3), 4);
        e.answers("none need be PRESSED", Scenes.of("u000 k110"), x -> x.haunts(0), 0);
        e.answers("PRESSED alone: what is PRESSED now does not count",
            Scenes.of(Scenes.SQUARE, x -> Checks.press(x, 0, 1, 2)), x -> x.haunts(3), 7);
        e.answers("it may be PRESSED now", Scenes.of(Scenes.SQUARE, x -> x.press(3)), x -> x.haunts(3), 7);
        e.sentence(25, "of like few the least number)");
        e.answers("two ways of three", Scenes.of("k000 k010 k110 k100 k020 k120"), x -> x.haunts(0), 14);
        e.answers("the other way round", Scenes.of("k120 k020 k100 k110 k010 k000"), x -> x.haunts(5), 7);
        e.sentence(25, "how many by asked()");
        e.tells("five", Scenes.of(RING), x -> x.haunts(0), 62, 5);
        e.tells("three", Scenes.of(Scenes.SQUARE), x -> x.haunts(0), 14, 3);
        e.tells("none", Scenes.of("u000 k110"), x -> x.haunts(0), 0, 0);
        e.sentence(25, "NONE: by none");
        e.refuses("no wire in common", Scenes.of(Scenes.APART), x -> x.haunts(0), NONE);
        e.refuses("its LINE is CUT", Scenes.of(SEVEN_STUCK, x -> x.cut(3)), x -> x.haunts(6), NONE);
        e.refuses("a VALVE in the way back", Scenes.of("v000 k010 k100 k110"), x -> x.haunts(3), NONE);
        e.refuses("asked() stays", Scenes.then(Scenes::rich, x -> x.at(0, 4)), x -> x.haunts(0), NONE);
    }

    private void hauntsRefused() {
        e.sentence(25, "BAD");
        for (int i : NO_KEYS) {
            e.refuses("KEY " + i + " of 7", Scenes::rich, x -> x.haunts(i), BAD);
        }
        e.refuses("KEY 2 of 2", Scenes.of(Scenes.APART), x -> x.haunts(2), BAD);
        e.refuses("KEY 0 without KEYS", Scenes::bare, x -> x.haunts(0), BAD);
    }

    private void right() {
        e.sentence(26, "Of how many sets just those KEYS are TOLD that are PRESSED");
        e.answers("all of two", Scenes.of(Scenes.APART), x -> x.right(), 4);
        e.answers("all of seven", Scenes.of("v000 v010 v020 v100 v110 v120 v350"), x -> x.right(), 128);
        e.answers("one: all", Scenes.of(SEVEN_STUCK), x -> x.right(), 1);
        e.answers("all but those of three", Scenes.of(Scenes.SQUARE), x -> x.right(), 12);
        e.answers("one: none", Scenes.of(Scenes.SQUARE, x -> Checks.cuts(x, 0, 1)), x -> x.right(), 1);
        e.sentence(26, "the greatest n by asked() such that so it is of all sets of n KEYS or fewer (-1: not even of none)");
        e.tells("not even of none", Scenes.of("u000 k110"), x -> x.right(), 2, -1);
        e.tells("of none", Scenes.of("t001 k110"), x -> x.right(), 2, 0);
        e.tells("of two or fewer", Scenes.of(Scenes.SQUARE), x -> x.right(), 12, 2);
        e.tells("of four or fewer", Scenes.of(RING), x -> x.right(), 58, 4);
        e.tells("of all four", Scenes.of(VALVES), x -> x.right(), 16, 4);
        e.tells("of all seven", Scenes.of("v000 v010 v020 v100 v110 v120 v350"), x -> x.right(), 128, 7);
        e.tells("of all two", Scenes.of(Scenes.APART), x -> x.right(), 4, 2);
        e.tells("of all alone, not of none", Scenes.of(SEVEN_STUCK), x -> x.right(), 1, -1);
    }

    private void alike() {
        e.sentence(27, "By how many sets the same is TOLD as now");
        e.answers("by one", Scenes.of(Scenes.APART), x -> x.alike(), 1);
        e.answers("by all", Scenes.of(SEVEN_STUCK), x -> x.alike(), 128);
        e.answers("by five", Scenes.of(Scenes.SQUARE, x -> Checks.press(x, 0, 1, 2, 3)), x -> x.alike(), 5);
        e.sentence(27, "the least number of these by asked()");
        e.tells("none", Scenes.of(SEVEN_STUCK, x -> x.press(6)), x -> x.alike(), 128, 0);
        e.tells("the one itself", Scenes.of(Scenes.APART, x -> Checks.press(x, 0, 1)), x -> x.alike(), 1, 3);
        e.tells("of five", Scenes.of(Scenes.SQUARE, x -> Checks.press(x, 1, 2, 3)), x -> x.alike(), 5, 7);
    }

    private void best() {
        e.sentence(28, "The KEY (of any KIND) that, were it a VALVE, would make most sets right (the first)");
        e.answers("all alike: the first", Scenes.of(Scenes.SQUARE), x -> x.best(), 0);
        e.answers("the last", Scenes.of("v000 v010 v100 k110"), x -> x.best(), 3);
        e.answers("a STUCK one", Scenes.of("k000 u110"), x -> x.best(), 1);
        e.answers("a TIGHT one", Scenes.of("k000 t111"), x -> x.best(), 1);
        e.answers("a SHY one in SCAN 1", Scenes.of("k000 s110", x -> x.scan()), x -> x.best(), 1);
        e.answers("a WORN one in SCAN 2", Scenes.of("k000 w112", x -> Checks.scans(x, 2)), x -> x.best(), 1);
        e.answers("two STUCK ones: the first", Scenes.of("u000 u110"), x -> x.best(), 0);
        e.sentence(28, "how many by asked()");
        e.tells("13", Scenes.of(Scenes.SQUARE), x -> x.best(), 0, 13);
        e.tells("all", Scenes.of("v000 v010 v100 k110"), x -> x.best(), 3, 16);
        e.tells("two", Scenes.of("u000 u110"), x -> x.best(), 0, 2);
        e.sentence(28, "NONE: none more than now");
        e.refuses("all are right", Scenes.of(Scenes.APART), x -> x.best(), NONE);
        e.refuses("all are VALVES", Scenes.of(VALVES), x -> x.best(), NONE);
        e.refuses("all LINES are CUT", Scenes.of(Scenes.SQUARE, x -> Checks.cuts(x, 0, 1)), x -> x.best(), NONE);
    }

    private void withoutKeys() {
        e.sentence(26, "STATE: no KEYS");
        e.refuses("right", Scenes::bare, x -> x.right(), STATE);
        e.sentence(27, "STATE: no KEYS");
        e.refuses("alike", Scenes::bare, x -> x.alike(), STATE);
        e.sentence(28, "STATE: no KEYS");
        e.refuses("best", Scenes::bare, x -> x.best(), STATE);
    }
}
