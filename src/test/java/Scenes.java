import java.util.function.Consumer;

/** Objects on which refusals are tried: what a call changes by mistake can be seen on them. */
final class Scenes {
    static final String ALL_KINDS = "k001 v112 s220 u332 t043 w151 k300";
    /** Four keys at the corners of a square: any three make a ghost of the fourth. */
    static final String SQUARE = "k000 k010 k100 k110";
    /** Two keys that have no wire in common. */
    static final String APART = "k000 k110";

    private Scenes() {
    }

    static StrayKeys fresh() {
        return new StrayKeys();
    }

    /**
     * ROWS 0 (five ints), 1 (empty), 4 (one), 5 (forty); TEXTS 1 (a FAULT), 3 (sixty bytes), and without KEYS. Each
     * FINDING has been answered, BEYOND twice.
     */
    static StrayKeys bare() {
        StrayKeys x = new StrayKeys();
        Checks.layRow(x, 0, 3, 1, 4, 1, 3141);
        x.row(1, 0);
        Checks.layRow(x, 4, -7);
        x.row(5, 40);
        x.lay(5, 0, 11);
        x.lay(5, 39, -12);
        Checks.write(x, 1, "k000k000");
        x.text(3, 60);
        x.put(3, 59, 'k');
        x.at(2, 0);
        x.mean(1);
        x.row(0, -1);
        x.at(0, 5);
        x.at(0, 9);
        x.at(0, 4);
        return x;
    }

    /** As bare(), with TEXT 0 and KEYS of all KINDS by it, 8 DEEDS, BOARDS kept at 0 and 2, a fraction told. */
    static StrayKeys rich() {
        StrayKeys x = bare();
        Checks.write(x, 0, ALL_KINDS);
        x.board(0);
        x.press(0);
        x.scan();
        x.keep(0);
        x.press(4);
        x.cut(2);
        x.scan();
        x.keep(2);
        Checks.press(x, 1, 3, 5);
        x.mark(0, 1);
        x.odds(5);
        x.at(0, 4);
        return x;
    }

    /** As rich(), with 40 DEEDS. */
    static StrayKeys full() {
        return withDeeds(rich(), 40);
    }

    static StrayKeys withDeeds(StrayKeys x, int many) {
        for (int d = x.count(2); d < many; d++) {
            x.press(d % 7);
        }
        return x;
    }

    static Edges.Scene of(String board) {
        return () -> Checks.boardOf(board);
    }

    /** A board on which something has been done. */
    static Edges.Scene of(String board, Consumer<StrayKeys> done) {
        return then(of(board), done);
    }

    static Edges.Scene then(Edges.Scene scene, Consumer<StrayKeys> done) {
        return () -> {
            StrayKeys x = scene.make();
            done.accept(x);
            return x;
        };
    }
}
