/** Promises 1 to 9: a new object, rows, texts. In Scenes.rich() ROWS 2, 3 and TEXT 2 are missing, ROW 1 is empty. */
final class RowEdges {
    private static final int BAD = Edges.BAD, FINDING = Edges.FINDING, MIN = Edges.MIN, MAX = Edges.MAX;
    private static final int NOTHING = Edges.NOTHING, BEYOND = Edges.BEYOND, NOUGHT = Edges.NOUGHT, SIZE = Edges.SIZE;
    private static final int[] NO_ROWS = {MIN, -1, 6, 7, MAX};
    private static final int[] NO_TEXTS = {MIN, -1, 4, 5, MAX};

    private final Edges e;

    RowEdges(Edges e) {
        this.e = e;
    }

    void run() {
        newObject();
        row();
        lay();
        at();
        tear();
        copy();
        copyRefused();
        copyBeyond();
        mean();
        text();
        put();
    }

    private void newObject() {
        e.sentence(1, "No ROWS, TEXTS, KEYS");
        e.answers("KEYS", Scenes::fresh, x -> x.count(0), 0);
        e.answers("ROWS", Scenes::fresh, x -> x.count(6), 0);
        e.answers("TEXTS", Scenes::fresh, x -> x.count(7), 0);
        for (int place = 0; place < 6; place++) {
            int p = place;
            e.finds("ROW " + place, Scenes::fresh, x -> x.at(p, 0), NOTHING);
        }
        for (int place = 0; place < 4; place++) {
            int p = place;
            e.finds("TEXT " + place, Scenes::fresh, x -> x.put(p, 0, 1), NOTHING);
        }
        e.refuses("KEY 0", Scenes::fresh, x -> x.key(0, 0), BAD);
    }

    private void row() {
        e.sentence(2, "A ROW is there with n ints 0: n");
        for (int r : new int[] {0, 2, 5}) {
            for (int n : new int[] {0, 1, 39, 40}) {
                Edges.Scene made = Scenes.then(Scenes::rich, x -> x.row(r, n));
                String what = "ROW " + r + " of " + n;
                e.answers(what, Scenes::rich, x -> x.row(r, n), n);
                e.answers(what + " is there", made, x -> x.count(6), r == 2 ? 5 : 4);
                e.answers(what + ", its end", made, x -> x.at(r, n), FINDING);
                for (int place = 0; place < n; place++) {
                    int i = place;
                    e.tells(what + ", place " + place, made, x -> x.at(r, i), 1, 0);
                }
            }
        }
        e.sentence(2, "BAD: also n above 40");
        for (int r : NO_ROWS) {
            e.refuses("ROW " + r, Scenes::rich, x -> x.row(r, 1), BAD);
            e.refuses("ROW " + r + " and n below 0: BAD, not SIZE", Scenes::rich, x -> x.row(r, -1), BAD);
            e.refuses("ROW " + r + " and n above 40", Scenes::rich, x -> x.row(r, 41), BAD);
        }
        for (int n : new int[] {41, 42, MAX}) {
            e.refuses("n " + n, Scenes::rich, x -> x.row(0, n), BAD);
            e.refuses("n " + n + " of a missing ROW", Scenes::rich, x -> x.row(2, n), BAD);
        }
        e.sentence(2, "SIZE: below 0");
        for (int n : new int[] {-1, -2, MIN}) {
            e.finds("n " + n, Scenes::rich, x -> x.row(0, n), SIZE);
            e.finds("n " + n + " of a missing ROW", Scenes::rich, x -> x.row(2, n), SIZE);
        }
    }

    private void lay() {
        e.sentence(3, "Place i of a ROW is v: what it was, told by asked(): 1");
        e.tells("the first place", Scenes::rich, x -> x.lay(0, 0, MAX), 1, 3);
        e.tells("the last place", Scenes::rich, x -> x.lay(0, 4, MIN), 1, 3141);
        e.tells("place 39", Scenes::rich, x -> x.lay(5, 39, 1), 1, -12);
        Edges.Scene laid = Scenes.then(Scenes::rich, x -> {
            x.lay(0, 0, MAX);
            x.lay(0, 4, MIN);
        });
        int[] want = {MAX, 1, 4, 1, MIN};
        for (int place = 0; place < 5; place++) {
            int i = place;
            e.tells("place " + place + " then", laid, x -> x.at(0, i), 1, want[place]);
        }
        e.sentence(3, "BAD");
        for (int r : NO_ROWS) {
            e.refuses("ROW " + r, Scenes::rich, x -> x.lay(r, 0, 1), BAD);
            e.refuses("ROW " + r + " and place -1: BAD, not BEYOND", Scenes::rich, x -> x.lay(r, -1, 1), BAD);
        }
        e.sentence(3, "NOTHING");
        for (int i : new int[] {-1, 0, 40}) {
            e.finds("ROW 2, place " + i, Scenes::rich, x -> x.lay(2, i, 1), NOTHING);
            e.finds("a ROW that was torn, place " + i, Scenes.then(Scenes::rich, x -> x.tear(5)),
                x -> x.lay(5, i, 1), NOTHING);
        }
        e.sentence(3, "BEYOND");
        for (int i : new int[] {MIN, -1, 5, 6, MAX}) {
            e.finds("of five, place " + i, Scenes::rich, x -> x.lay(0, i, 1), BEYOND);
        }
        e.finds("of none, place 0", Scenes::rich, x -> x.lay(1, 0, 1), BEYOND);
        e.finds("of one, place 1", Scenes::rich, x -> x.lay(4, 1, 1), BEYOND);
        e.finds("of forty, place 40", Scenes::rich, x -> x.lay(5, 40, 1), BEYOND);
    }

    private void at() {
        e.sentence(4, "Place i of a ROW, told by asked(): 1");
        e.tells("the first place", Scenes::rich, x -> x.at(0, 0), 1, 3);
        e.tells("the last place", Scenes::rich, x -> x.at(0, 4), 1, 3141);
        e.tells("of one", Scenes::rich, x -> x.at(4, 0), 1, -7);
        e.tells("place 39", Scenes::rich, x -> x.at(5, 39), 1, -12);
        e.sentence(4, "BAD");
        for (int r : NO_ROWS) {
            e.refuses("ROW " + r, Scenes::rich, x -> x.at(r, 0), BAD);
            e.refuses("ROW " + r + " and place -1: BAD, not BEYOND", Scenes::rich, x -> x.at(r, -1), BAD);
        }
        e.sentence(4, "NOTHING");
        for (int i : new int[] {-1, 0, 40}) {
            e.finds("ROW 3, place " + i, Scenes::rich, x -> x.at(3, i), NOTHING);
            e.finds("a ROW that was torn, place " + i, Scenes.then(Scenes::rich, x -> x.tear(5)),
                x -> x.at(5, i), NOTHING);
        }
        e.sentence(4, "BEYOND");
        for (int i : new int[] {MIN, -1, 5, 6, MAX}) {
            e.finds("of five, place " + i, Scenes::rich, x -> x.at(0, i), BEYOND);
        }
        e.finds("of none, place 0", Scenes::rich, x -> x.at(1, 0), BEYOND);
        e.finds("of one, place 1", Scenes::rich, x -> x.at(4, 1), BEYOND);
        e.finds("of forty, place 40", Scenes::rich, x -> x.at(5, 40), BEYOND);
        e.finds("made shorter", Scenes.then(Scenes::rich, x -> x.row(0, 4)), x -> x.at(0, 4), BEYOND);
    }

    private void tear() {
        e.sentence(5, "A ROW is missing: 1");
        for (int r : new int[] {0, 1, 4, 5}) {
            Edges.Scene torn = Scenes.then(Scenes::rich, x -> x.tear(r));
            e.answers("ROW " + r, Scenes::rich, x -> x.tear(r), 1);
            e.finds("ROW " + r + " then", torn, x -> x.at(r, 0), NOTHING);
            e.answers("ROW " + r + ", the others", torn, x -> x.count(6), 3);
        }
        e.sentence(5, "BAD");
        for (int r : NO_ROWS) {
            e.refuses("ROW " + r + ": BAD, not NOTHING", Scenes::rich, x -> x.tear(r), BAD);
        }
        e.sentence(5, "NOTHING");
        e.finds("ROW 2", Scenes::rich, x -> x.tear(2), NOTHING);
        e.finds("twice", Scenes.then(Scenes::rich, x -> x.tear(0)), x -> x.tear(0), NOTHING);
    }

    private void copy() {
        e.sentence(6, "n places of a ROW, from one on, come to those of another one (perhaps itself) from one on, as if"
            + " taken ahead: 1");
        Edges.Scene two = Scenes.then(Scenes::fresh, x -> {
            Checks.layRow(x, 0, 1, 2, 3, 4, 5);
            Checks.layRow(x, 1, 6, 7, 8);
        });
        isRow("another one", Scenes.then(two, x -> x.copy(0, 1, 1, 1, 2)), 1, 6, 2, 3);
        isRow("another one, all of it", Scenes.then(two, x -> x.copy(0, 2, 1, 0, 3)), 1, 3, 4, 5);
        isRow("itself, up by one", Scenes.then(two, x -> x.copy(0, 0, 0, 1, 4)), 0, 1, 1, 2, 3, 4);
        isRow("itself, up by two", Scenes.then(two, x -> x.copy(0, 0, 0, 2, 3)), 0, 1, 2, 1, 2, 3);
        isRow("itself, down by one", Scenes.then(two, x -> x.copy(0, 1, 0, 0, 4)), 0, 2, 3, 4, 5, 5);
        isRow("itself, to where it is", Scenes.then(two, x -> x.copy(0, 0, 0, 0, 5)), 0, 1, 2, 3, 4, 5);
        isRow("the first ROW stays", Scenes.then(two, x -> x.copy(0, 1, 1, 1, 2)), 0, 1, 2, 3, 4, 5);
        isRow("none", Scenes.then(two, x -> x.copy(0, 0, 1, 0, 0)), 1, 6, 7, 8);
        isRow("forty of a new ROW", Scenes.then(two, x -> {
            x.row(2, 40);
            x.row(3, 40);
            x.lay(2, 39, 9);
            x.copy(2, 0, 3, 0, 40);
            x.copy(3, 37, 1, 0, 3);
        }), 1, 0, 0, 9);
        int[][] fine = {{0, 0, 1, 0, 3}, {0, 2, 1, 0, 3}, {0, 4, 1, 2, 1}, {0, 5, 1, 3, 0}, {1, 3, 0, 5, 0}};
        for (int[] a : fine) {
            e.answers("from " + a[1] + " to " + a[3] + " by " + a[4], two, x -> copyBy(x, a), 1);
        }
    }

    private static int copyBy(StrayKeys x, int[] a) {
        return x.copy(a[0], a[1], a[2], a[3], a[4]);
    }

    private void isRow(String what, Edges.Scene scene, int r, int... values) {
        for (int place = 0; place < values.length; place++) {
            int i = place;
            e.tells(what + ", place " + place, scene, x -> x.at(r, i), 1, values[place]);
        }
        e.answers(what + ", its end", scene, x -> x.at(r, values.length), FINDING);
    }

    private void copyRefused() {
        e.sentence(6, "BAD");
        for (int r : NO_ROWS) {
            e.refuses("from ROW " + r, Scenes::rich, x -> x.copy(r, 0, 0, 0, 1), BAD);
            e.refuses("to ROW " + r, Scenes::rich, x -> x.copy(0, 0, r, 0, 1), BAD);
            e.refuses("both " + r, Scenes::rich, x -> x.copy(r, 0, r, 0, 0), BAD);
            e.refuses("from ROW " + r + ", n below 0: BAD, not SIZE", Scenes::rich, x -> x.copy(r, 0, 0, 0, -1), BAD);
            e.refuses("to ROW " + r + ", n below 0: BAD, not SIZE", Scenes::rich, x -> x.copy(0, 0, r, 0, -1), BAD);
            e.refuses("a missing ROW to " + r + ": BAD, not NOTHING", Scenes::rich, x -> x.copy(2, 0, r, 0, 1), BAD);
            e.refuses(r + " to a missing ROW: BAD, not NOTHING", Scenes::rich, x -> x.copy(r, 0, 2, 0, 1), BAD);
            e.refuses("to ROW " + r + " from beyond: BAD, not BEYOND", Scenes::rich, x -> x.copy(0, 5, r, 0, 1), BAD);
        }
        e.sentence(6, "SIZE: n below 0");
        for (int n : new int[] {-1, -2, MIN}) {
            e.finds("n " + n, Scenes::rich, x -> x.copy(0, 1, 5, 1, n), SIZE);
            e.finds("n " + n + " from nothing: SIZE, not NOTHING", Scenes::rich, x -> x.copy(2, 0, 0, 0, n), SIZE);
            e.finds("n " + n + " to nothing: SIZE, not NOTHING", Scenes::rich, x -> x.copy(0, 0, 2, 0, n), SIZE);
            e.finds("n " + n + " from beyond: SIZE, not BEYOND", Scenes::rich, x -> x.copy(0, 6, 0, -1, n), SIZE);
        }
        e.sentence(6, "NOTHING: either");
        for (int n : new int[] {0, 1, 41}) {
            e.finds("from ROW 2, n " + n, Scenes::rich, x -> x.copy(2, 0, 0, 0, n), NOTHING);
            e.finds("to ROW 2, n " + n, Scenes::rich, x -> x.copy(0, 0, 2, 0, n), NOTHING);
            e.finds("from and to ROW 2, n " + n, Scenes::rich, x -> x.copy(2, 0, 2, 0, n), NOTHING);
            e.finds("from ROW 2 to beyond: NOTHING, n " + n, Scenes::rich, x -> x.copy(2, 0, 0, 9, n), NOTHING);
            e.finds("from beyond to ROW 2: NOTHING, n " + n, Scenes::rich, x -> x.copy(0, -1, 2, 0, n), NOTHING);
        }
    }

    private void copyBeyond() {
        e.sentence(6, "BEYOND: not so many there");
        int[][] beyond = {
            {0, 0, 5, 0, 6}, {0, 1, 5, 0, 5}, {0, 5, 5, 0, 1}, {0, -1, 5, 0, 1}, {0, -1, 5, 0, 0}, {0, 6, 5, 0, 0},
            {5, 0, 0, 0, 6}, {5, 0, 0, 1, 5}, {5, 0, 0, 5, 1}, {5, 0, 0, -1, 1}, {5, 0, 0, -1, 0}, {5, 0, 0, 6, 0},
            {5, 0, 5, 0, 41}, {5, 1, 5, 0, 40}, {5, 0, 5, 1, 40}, {1, 0, 0, 0, 1}, {0, 0, 1, 0, 1}, {0, 0, 0, 1, 5},
            {0, MAX, 5, 0, 1}, {0, 1, 5, 0, MAX}, {0, MAX, 5, MAX, MAX}, {0, MIN, 5, 0, 1}, {0, 0, 5, MIN, 1},
            {5, 0, 0, MAX, 1}, {0, MIN, 5, MIN, MAX}, {0, MAX, 5, 0, 0}};
        for (int[] a : beyond) {
            String what = a[4] + " of ROW " + a[0] + " from " + a[1] + " to ROW " + a[2] + " from " + a[3];
            e.finds(what, Scenes::rich, x -> copyBy(x, a), BEYOND);
        }
    }

    private void mean() {
        e.sentence(7, "The mean of a ROW's ints, cut, told by asked(): 1");
        int[][] rows = {{5}, {MIN}, {MAX}, {1, 2}, {1, 1}, {0, 1}, {-1, -2}, {-1, 0}, {0, -3}, {1, 2, 2}, {-1, -2, -2},
            {MAX, MAX}, {MIN, MIN}, {MAX, MIN}, {MAX, MAX, MAX, MAX, MAX}, {MIN, MIN, MIN, MIN, MIN}};
        int[] want = {5, MIN, MAX, 1, 1, 0, -1, 0, -1, 1, -1, MAX, MIN, 0, MAX, MIN};
        for (int k = 0; k < rows.length; k++) {
            int[] values = rows[k];
            e.tells("ROW " + k, Scenes.then(Scenes::rich, x -> Checks.layRow(x, 0, values)), x -> x.mean(0), 1, want[k]);
        }
        int[] forty = new int[40];
        java.util.Arrays.fill(forty, MAX);
        e.tells("forty", Scenes.then(Scenes::rich, x -> Checks.layRow(x, 5, forty)), x -> x.mean(5), 1, MAX);
        forty[39] = MAX - 1;
        e.tells("forty, cut", Scenes.then(Scenes::rich, x -> Checks.layRow(x, 5, forty)), x -> x.mean(5), 1, MAX - 1);
        e.sentence(7, "BAD");
        for (int r : NO_ROWS) {
            e.refuses("ROW " + r + ": BAD, not NOTHING", Scenes::rich, x -> x.mean(r), BAD);
        }
        e.sentence(7, "NOTHING");
        e.finds("ROW 2", Scenes::rich, x -> x.mean(2), NOTHING);
        e.finds("a ROW that was torn: NOTHING, not NOUGHT", Scenes.then(Scenes::rich, x -> x.tear(1)),
            x -> x.mean(1), NOTHING);
        e.sentence(7, "NOUGHT");
        e.finds("ROW 1", Scenes::rich, x -> x.mean(1), NOUGHT);
        e.finds("made empty", Scenes.then(Scenes::rich, x -> x.row(0, 0)), x -> x.mean(0), NOUGHT);
    }

    private void text() {
        e.sentence(8, "A TEXT is there with n blanks: n");
        for (int t : new int[] {0, 2, 3}) {
            for (int n : new int[] {0, 1, 59, 60}) {
                Edges.Scene made = Scenes.then(Scenes::rich, x -> x.text(t, n));
                String what = "TEXT " + t + " of " + n;
                e.answers(what, Scenes::rich, x -> x.text(t, n), n);
                e.answers(what + " is there", made, x -> x.count(7), t == 2 ? 4 : 3);
                e.answers(what + ", its end", made, x -> x.put(t, n, 1), FINDING);
                for (int place = 0; place < n; place++) {
                    int i = place;
                    e.answers(what + ", byte " + place, made, x -> x.put(t, i, 1), 1032);
                }
            }
        }
        e.sentence(8, "BAD: also n above 60");
        for (int t : NO_TEXTS) {
            e.refuses("TEXT " + t, Scenes::rich, x -> x.text(t, 1), BAD);
            e.refuses("TEXT " + t + " and n below 0: BAD, not SIZE", Scenes::rich, x -> x.text(t, -1), BAD);
            e.refuses("TEXT " + t + " and n above 60", Scenes::rich, x -> x.text(t, 61), BAD);
        }
        for (int n : new int[] {61, 62, MAX}) {
            e.refuses("n " + n, Scenes::rich, x -> x.text(0, n), BAD);
            e.refuses("n " + n + " of a missing TEXT", Scenes::rich, x -> x.text(2, n), BAD);
        }
        e.sentence(8, "SIZE: below 0");
        for (int n : new int[] {-1, -2, MIN}) {
            e.finds("n " + n, Scenes::rich, x -> x.text(0, n), SIZE);
            e.finds("n " + n + " of a missing TEXT", Scenes::rich, x -> x.text(2, n), SIZE);
        }
    }

    private void put() {
        e.sentence(9, "Byte i of a TEXT is v, cut to a byte: what it was, and 1000 more");
        int[] values = {0, 1, 126, 127, 128, 129, 255, 256, 257, -1, -127, -128, -129, -255, -256, -257, MIN, MAX};
        int[] bytes = {0, 1, 126, 127, -128, -127, -1, 0, 1, -1, -127, -128, 127, 1, 0, -1, 0, -1};
        for (int k = 0; k < values.length; k++) {
            int v = values[k];
            for (int place : new int[] {0, 59}) {
                Edges.Scene one = Scenes.then(Scenes::rich, x -> x.put(3, place, v));
                e.answers("byte " + place + " was " + v, one, x -> x.put(3, place, 7), 1000 + bytes[k]);
                e.answers("its neighbour", one, x -> x.put(3, place == 0 ? 1 : 58, 7), 1032);
            }
        }
        e.answers("what it was first", Scenes::rich, x -> x.put(3, 59, 1), 1107);
        e.sentence(9, "BAD");
        for (int t : NO_TEXTS) {
            e.refuses("TEXT " + t, Scenes::rich, x -> x.put(t, 0, 1), BAD);
            e.refuses("TEXT " + t + " and byte -1: BAD, not BEYOND", Scenes::rich, x -> x.put(t, -1, 1), BAD);
        }
        e.sentence(9, "NOTHING");
        for (int i : new int[] {-1, 0, 60}) {
            e.finds("TEXT 2, byte " + i, Scenes::rich, x -> x.put(2, i, 1), NOTHING);
        }
        e.sentence(9, "BEYOND");
        for (int i : new int[] {MIN, -1, 8, 9, MAX}) {
            e.finds("of eight, byte " + i, Scenes::rich, x -> x.put(1, i, 1), BEYOND);
        }
        e.answers("of eight, byte 7", Scenes::rich, x -> x.put(1, 7, 1), 1048);
        e.finds("of sixty, byte 60", Scenes::rich, x -> x.put(3, 60, 1), BEYOND);
        e.finds("of none, byte 0", Scenes.then(Scenes::rich, x -> x.text(1, 0)), x -> x.put(1, 0, 1), BEYOND);
    }
}
