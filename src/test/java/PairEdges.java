/** Promises 29 to 31: of which kind a key is, where it sits, the next set to press. */
final class PairEdges {
    private static final int BAD = Edges.BAD, NONE = Edges.NONE, MIN = Edges.MIN, MAX = Edges.MAX;
    private static final int NOTHING = Edges.NOTHING, UNLIKE = Edges.UNLIKE, SIZE = Edges.SIZE;
    private static final int[] NO_KEYS = {MIN, -1, 7, 8, MAX};
    private static final int[] NO_ROWS = {MIN, -1, 6, 7, MAX};

    private final Edges e;

    PairEdges(Edges e) {
        this.e = e;
    }

    void run() {
        for (int promise = 29; promise <= 31; promise++) {
            bad(promise);
            nothing(promise);
            size(promise);
            unlike(promise);
            order(promise);
        }
        kinds();
        kindsAlone();
        places();
        placesFirst();
        placesNone();
        test();
        testNone();
    }

    private static int ask(int promise, StrayKeys x, int i, int r) {
        return promise == 29 ? x.kinds(i, r) : promise == 30 ? x.places(i, r) : x.test(i, r);
    }

    private static Edges.Scene rowOf(Edges.Scene scene, int... values) {
        return Scenes.then(scene, x -> Checks.layRow(x, 3, values));
    }

    private void bad(int promise) {
        e.sentence(promise, "BAD");
        for (int i : NO_KEYS) {
            e.refuses("KEY " + i + " of 7", Scenes::rich, x -> ask(promise, x, i, 1), BAD);
        }
        for (int r : NO_ROWS) {
            e.refuses("ROW " + r, Scenes::rich, x -> ask(promise, x, 0, r), BAD);
            e.refuses("KEY 7 and ROW " + r, Scenes::rich, x -> ask(promise, x, 7, r), BAD);
        }
        e.refuses("KEY 2 of 2", Scenes.of(Scenes.APART, x -> x.row(1, 0)), x -> ask(promise, x, 2, 1), BAD);
        e.answers("KEY 1 of 2", Scenes.of(Scenes.APART, x -> x.row(1, 0)), x -> Math.min(0, ask(promise, x, 1, 1)), 0);
        e.refuses("without KEYS", Scenes::bare, x -> ask(promise, x, 0, 1), BAD);
        e.answers("KEY 6 of 7, ROW 5", Scenes.then(Scenes::rich, x -> x.row(5, 0)),
            x -> Math.min(0, ask(promise, x, 6, 5)), 0);
    }

    private void nothing(int promise) {
        e.sentence(promise, "NOTHING");
        e.finds("ROW 2", Scenes::rich, x -> ask(promise, x, 0, 2), NOTHING);
        e.finds("ROW 3", Scenes::rich, x -> ask(promise, x, 6, 3), NOTHING);
        e.finds("a ROW that was torn", Scenes.then(Scenes::rich, x -> x.tear(1)), x -> ask(promise, x, 0, 1), NOTHING);
        e.answers("an empty ROW is there", Scenes::rich, x -> Math.min(0, ask(promise, x, 0, 1)), 0);
    }

    private void size(int promise) {
        e.sentence(promise, promise == 29 ? "SIZE: not by pairs" : "SIZE");
        for (int n = 0; n <= 40; n++) {
            int size = n;
            // All right: of an empty set nothing but the stuck key is told.
            Edges.Scene scene = Scenes.then(Scenes::rich, x -> {
                x.row(3, size);
                for (int place = 1; place < size; place += 2) {
                    x.lay(3, place, 8);
                }
            });
            if (n % 2 == 0) {
                e.answers(n + " ints", scene, x -> Math.min(0, ask(promise, x, 0, 3)), 0);
            } else {
                e.finds(n + " ints", scene, x -> ask(promise, x, 0, 3), SIZE);
            }
        }
    }

    private void unlike(int promise) {
        e.sentence(promise, promise == 29 ? "UNLIKE: a number that is none" : "UNLIKE");
        for (int v : new int[] {MIN, -1, 128, 129, MAX}) {
            e.finds("PRESSED " + v, rowOf(Scenes::rich, v, 8), x -> ask(promise, x, 0, 3), UNLIKE);
            e.finds("TOLD " + v, rowOf(Scenes::rich, 0, v), x -> ask(promise, x, 0, 3), UNLIKE);
            e.finds("the second PRESSED " + v, rowOf(Scenes::rich, 0, 8, v, 8), x -> ask(promise, x, 0, 3), UNLIKE);
            e.finds("the second TOLD " + v, rowOf(Scenes::rich, 0, 8, 0, v), x -> ask(promise, x, 0, 3), UNLIKE);
            e.finds("behind what can't be " + v, rowOf(Scenes::rich, 0, 1, 0, v), x -> ask(promise, x, 3, 3), UNLIKE);
        }
        e.finds("the last of forty", Scenes::rich, x -> ask(promise, x, 0, 5), UNLIKE);
        for (int v : new int[] {0, 3}) {
            e.aside("of two, " + v, rowOf(Scenes.of(Scenes.APART), v, v), x -> ask(promise, x, 0, 3));
        }
        for (int v : new int[] {-1, 4}) {
            e.finds("of two, " + v, rowOf(Scenes.of(Scenes.APART), v, 0), x -> ask(promise, x, 0, 3), UNLIKE);
        }
        e.aside("of seven, 127", rowOf(Scenes::rich, 127, 127), x -> ask(promise, x, 0, 3));
    }

    private void order(int promise) {
        e.sentence(promise, "(In this order.)");
        for (int i : NO_KEYS) {
            e.refuses("KEY " + i + ": BAD, not NOTHING", Scenes::rich, x -> ask(promise, x, i, 2), BAD);
            e.refuses("KEY " + i + ": BAD, not SIZE", Scenes::rich, x -> ask(promise, x, i, 4), BAD);
            e.refuses("KEY " + i + ": BAD, not UNLIKE", Scenes::rich, x -> ask(promise, x, i, 5), BAD);
        }
        e.refuses("without KEYS: BAD, not NOTHING", Scenes::bare, x -> ask(promise, x, 0, 2), BAD);
        e.refuses("without KEYS: BAD, not SIZE", Scenes::bare, x -> ask(promise, x, 0, 4), BAD);
        e.refuses("without KEYS: BAD, not UNLIKE", Scenes::bare, x -> ask(promise, x, 0, 5), BAD);
        e.finds("SIZE, not UNLIKE: of one", Scenes::rich, x -> ask(promise, x, 0, 4), SIZE);
        e.finds("SIZE, not UNLIKE: of five", Scenes::rich, x -> ask(promise, x, 0, 0), SIZE);
    }

    private void kinds() {
        e.sentence(29, "KINDS (bits) that a KEY can be of (all else as it is)");
        Edges.Scene apart = Scenes.of(Scenes.APART);
        e.answers("by no pair: all", rowOf(apart), x -> x.kinds(0, 3), 63);
        e.answers("all but STUCK", rowOf(apart, 0, 0), x -> x.kinds(0, 3), 55);
        e.answers("STUCK", rowOf(apart, 0, 1), x -> x.kinds(0, 3), 8);
        e.answers("none", rowOf(apart, 0, 1, 0, 0), x -> x.kinds(0, 3), 0);
        e.answers("another KEY would have to be TOLD: none", rowOf(apart, 0, 2), x -> x.kinds(0, 3), 0);
        e.answers("the last pair of twenty counts", Scenes.then(apart, x -> {
            x.row(3, 40);
            x.lay(3, 39, 1);
        }), x -> x.kinds(0, 3), 0);
        e.tells("asked() stays", Scenes::rich, x -> x.kinds(0, 1), 63, 3141);
        e.aside("all", Scenes::rich, x -> x.kinds(6, 1));
        e.aside("none", rowOf(Scenes::rich, 0, 0), x -> x.kinds(0, 3));
        e.answers("a CUT LINE: all", rowOf(Scenes.of(Scenes.APART, x -> x.cut(0)), 3, 2), x -> x.kinds(0, 3), 63);
    }

    private void kindsAlone() {
        // Key 0 has a DELAY of 3; the other three corners make a ghost of it, and it of the last one.
        Edges.Scene square = Scenes.of("k003 k010 k100 k110");
        e.answers("a VALVE alone", rowOf(square, 7, 7), x -> x.kinds(0, 3), 2);
        e.answers("a TIGHT one alone", rowOf(square, 1, 0), x -> x.kinds(0, 3), 16);
        Edges.Scene held = Scenes.then(square, x -> {
            x.press(0);
            Checks.scans(x, 6);
        });
        e.answers("a WORN one alone", rowOf(held, 1, 0), x -> x.kinds(0, 3), 32);
        e.answers("a VALVE and a TIGHT one, HELD", rowOf(held, 7, 7), x -> x.kinds(0, 3), 2 + 16);
        Edges.Scene odd = Scenes.then(square, x -> x.scan());
        e.answers("a KEY alone", rowOf(odd, 7, 15, 0, 0), x -> x.kinds(0, 3), 1);
        e.answers("all that do not CONDUCT", rowOf(odd, 1, 0), x -> x.kinds(0, 3), 4 + 16 + 32);
    }

    private void places() {
        e.sentence(30, "At how many places (where no other KEY sits");
        e.answers("of two KEYS", rowOf(Scenes.of(Scenes.APART)), x -> x.places(0, 3), 23);
        e.answers("of seven KEYS", rowOf(Scenes::rich), x -> x.places(6, 3), 18);
        e.answers("at one", rowOf(Scenes.of(Scenes.SQUARE), 7, 15), x -> x.places(3, 3), 1);
        e.answers("at all but that", rowOf(Scenes.of(Scenes.SQUARE), 7, 7), x -> x.places(3, 3), 20);
        e.aside("of seven KEYS", rowOf(Scenes::rich), x -> x.places(6, 3));
        e.sentence(30, "its own, too) it can sit");
        // Lines 0 to 2 are CUT; on line 3 five of six places are taken by others.
        Edges.Scene last = Scenes.of("k300 k310 k320 k330 k340 k350", x -> Checks.cuts(x, 0, 1, 2));
        e.tells("its own alone", rowOf(last, 32, 32), x -> x.places(5, 3), 1, 35);
        e.tells("its own among all", rowOf(last), x -> x.places(5, 3), 19, 0);
    }

    private void placesFirst() {
        e.sentence(30, "10 times the LINE and the COLUMN of the first (rising) by asked()");
        e.tells("0 is its own", rowOf(Scenes.of(Scenes.APART)), x -> x.places(0, 3), 23, 0);
        e.tells("0 is taken", rowOf(Scenes.of(Scenes.APART)), x -> x.places(1, 3), 23, 1);
        e.tells("LINE 0 is CUT", rowOf(Scenes.of(Scenes.APART, x -> x.cut(0)), 2, 2), x -> x.places(1, 3), 18, 10);
        Edges.Scene first = Scenes.of("k300 k310 k320 k330 k340 k000", x -> Checks.cuts(x, 0, 1, 2));
        e.tells("the last place of all", rowOf(first, 32, 32), x -> x.places(5, 3), 1, 35);
        Edges.Scene line = Scenes.of("k000 k010 k020 k030 k040 k050 k350");
        e.tells("LINE 0 is taken", rowOf(line), x -> x.places(6, 3), 18, 10);
        e.tells("the last COLUMN of LINE 0", rowOf(Scenes.of("k000 k010 k020 k030 k040 k350")), x -> x.places(5, 3),
            19, 5);
    }

    private void placesNone() {
        e.sentence(30, "NONE: at none");
        e.refuses("never TOLD so", rowOf(Scenes.of(Scenes.APART), 0, 1), x -> x.places(0, 3), NONE);
        e.refuses("asked() stays", rowOf(Scenes::rich, 0, 0), x -> x.places(0, 3), NONE);
        e.refuses("all LINES are CUT", rowOf(Scenes.of(Scenes.APART, x -> Checks.cuts(x, 0, 1, 2, 3)), 1, 1),
            x -> x.places(0, 3), NONE);
    }

    private void test() {
        e.sentence(31, "The set to PRESS by which these KINDS are told apart best: the greatest part of those by which the"
            + " same is TOLD is least (the first)");
        Edges.Scene apart = Scenes.of(Scenes.APART);
        e.answers("none PRESSED tells STUCK from the others", rowOf(apart), x -> x.test(0, 3), 0);
        e.answers("none does better", rowOf(Scenes.of(Scenes.APART, x -> x.cut(0))), x -> x.test(0, 3), 0);
        e.answers("KEY 0 in SCAN 1", rowOf(Scenes.of(Scenes.APART, x -> x.scan())), x -> x.test(0, 3), 1);
        e.answers("KEY 1 in SCAN 1", rowOf(Scenes.of(Scenes.APART, x -> x.scan())), x -> x.test(1, 3), 2);
        e.answers("three corners", rowOf(Scenes.of("k001 k010 k100 k110")), x -> x.test(0, 3), 7);
        e.answers("one KIND", rowOf(apart, 0, 1), x -> x.test(0, 3), 0);
        e.sentence(31, "that part by asked()");
        e.tells("one", rowOf(apart, 0, 1), x -> x.test(0, 3), 0, 1);
        Edges.Scene odd = Scenes.of("k001 k010 k100 k110", x -> x.scan());
        e.tells("one, a plain KEY", rowOf(odd, 7, 15, 0, 0), x -> x.test(0, 3), 0, 1);
        e.tells("three", rowOf(Scenes.of("k001 k110", x -> x.scan())), x -> x.test(0, 3), 1, 3);
        e.tells("four", rowOf(Scenes.of("k001 k010 k100 k110")), x -> x.test(0, 3), 7, 4);
        e.tells("five", rowOf(apart), x -> x.test(0, 3), 0, 5);
        e.tells("all six", rowOf(Scenes.of(Scenes.APART, x -> x.cut(0))), x -> x.test(0, 3), 0, 6);
        e.aside("of all", rowOf(Scenes::rich), x -> x.test(0, 3));
    }

    private void testNone() {
        e.sentence(31, "NONE: there is no KIND");
        e.refuses("none fits", rowOf(Scenes.of(Scenes.APART), 0, 1, 0, 0), x -> x.test(0, 3), NONE);
        e.refuses("asked() stays", rowOf(Scenes::rich, 0, 0), x -> x.test(0, 3), NONE);
    }
}
