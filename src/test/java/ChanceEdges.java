/** Promises 32 to 35: by turns, chances, means, lots. */
final class ChanceEdges {
    private static final int BAD = Edges.BAD, FULL = Edges.FULL, STATE = Edges.STATE, MIN = Edges.MIN, MAX = Edges.MAX;
    private static final String SEVEN_STUCK = "u000 u010 u020 u100 u110 u120 u350";

    private final Edges e;

    ChanceEdges(Edges e) {
        this.e = e;
    }

    void run() {
        duel();
        duelPresses();
        duelRefused();
        odds();
        mid();
        chancesRefused();
        lots();
        lotsSorts();
        lotsRefused();
        lotsFull();
    }

    private void duels(String what, Edges.Scene scene, int... want) {
        for (int turns = 0; turns < want.length; turns++) {
            int n = turns;
            e.answers(what + ", " + turns + " turns", scene, x -> x.duel(n), want[turns]);
        }
    }

    private void duel() {
        e.sentence(32, "or none), then another one does: how many GHOSTS there are then, the first wanting many, the other"
            + " one few");
        Edges.Scene square = Scenes.of(Scenes.SQUARE);
        duels("none PRESSED", square, 0, 0, 0, 0, 0);
        duels("two PRESSED", Scenes.then(square, x -> Checks.press(x, 0, 1)), 0, 1, 0, 1, 0);
        duels("three PRESSED", Scenes.then(square, x -> Checks.press(x, 0, 1, 2)), 1, 1, 0, 0, 0);
        duels("all PRESSED", Scenes.then(square, x -> Checks.press(x, 0, 1, 2, 3)), 0, 0, 0, 0, 0);
        duels("seven GHOSTS", Scenes.of(SEVEN_STUCK), 7, 7, 6, 6, 5);
        duels("two GHOSTS", Scenes.of("u000 u110"), 2, 2, 1, 1, 0);
        duels("one GHOST", Scenes.of("u000 k110"), 1, 1, 0, 0, 0);
        for (int turns = 0; turns <= 4; turns++) {
            int n = turns;
            e.aside(turns + " turns", Scenes::rich, x -> x.duel(n));
            e.aside(turns + " turns, though there are 40 DEEDS", Scenes::full, x -> x.duel(n));
            e.tells(turns + " turns, asked() stays", Scenes::rich, x -> Math.min(0, x.duel(n)), 0, 3141);
        }
    }

    private void duelPresses() {
        e.sentence(32, "By n (0 .. 4) turns in all one PRESSES a KEY that is not (HELD for 0");
        // Two corners are stuck: with the third pressed the fourth is a ghost, too; a TIGHT third is not HELD for 1.
        duels("a KEY", Scenes.of("u000 k010 u100 k110"), 2, 3, 2, 2, 1);
        duels("a TIGHT one of DELAY 0", Scenes.of("u000 t010 u100 v110"), 2, 3, 2, 2, 1);
        duels("TIGHT ones of DELAY 1", Scenes.of("u000 t011 u100 t111"), 2, 2, 1, 1, 0);
        // A TIGHT one that is PRESSED goes on being HELD for as long as it is.
        Edges.Scene held = Scenes.of("u000 t011 u100 t111", x -> {
            x.press(1);
            x.scan();
        });
        duels("a TIGHT one that is HELD", held, 3, 3, 2, 2, 1);
    }

    private void duelRefused() {
        e.sentence(32, "BAD");
        for (int n : new int[] {MIN, -1, 5, 6, MAX}) {
            e.refuses("n " + n, Scenes::rich, x -> x.duel(n), BAD);
            e.refuses("n " + n + " without KEYS: BAD, not STATE", Scenes::bare, x -> x.duel(n), BAD);
        }
        e.sentence(32, "STATE: no KEYS");
        for (int turns = 0; turns <= 4; turns++) {
            int n = turns;
            e.refuses("n " + turns, Scenes::bare, x -> x.duel(n), STATE);
        }
    }

    private void odds() {
        e.sentence(33, "Chances that just those are TOLD that are PRESSED, if each KEY is PRESSED by p (0 .. 12) of 12, each"
            + " by itself (as by would()): 1");
        Edges.Scene stuck = Scenes.of(SEVEN_STUCK);
        e.fraction("7 of 7 by 0", stuck, x -> x.odds(0), 0, 1);
        e.fraction("7 of 7 by 1", stuck, x -> x.odds(1), 1, 35831808);
        e.fraction("7 of 7 by 6", stuck, x -> x.odds(6), 1, 128);
        e.fraction("7 of 7 by 11", stuck, x -> x.odds(11), 19487171, 35831808);
        e.fraction("7 of 7 by 12", stuck, x -> x.odds(12), 1, 1);
        // Wrong are the four sets of three corners: 4 p p p (12 - p) of 12 12 12 12.
        Edges.Scene square = Scenes.of(Scenes.SQUARE);
        e.fraction("corners by 0", square, x -> x.odds(0), 1, 1);
        e.fraction("corners by 1", square, x -> x.odds(1), 5173, 5184);
        e.fraction("corners by 6", square, x -> x.odds(6), 3, 4);
        e.fraction("corners by 11", square, x -> x.odds(11), 3853, 5184);
        e.fraction("corners by 12", square, x -> x.odds(12), 1, 1);
        e.fraction("what is PRESSED now does not count", Scenes.then(square, x -> Checks.press(x, 0, 1, 2)),
            x -> x.odds(6), 3, 4);
        Edges.Scene tight = Scenes.of("t001 k110", x -> x.press(0));
        e.fraction("TIGHT, HELD for 0", tight, x -> x.odds(3), 3, 4);
        e.fraction("TIGHT, HELD for 1", Scenes.then(tight, x -> x.scan()), x -> x.odds(3), 1, 1);
        e.aside("by 5", Scenes::rich, x -> x.odds(5));
        e.tells("asked() stays", Scenes::rich, x -> x.odds(5), 1, 3141);
    }

    private void mid() {
        e.sentence(34, "The mean of how many GHOSTS there are then: 1");
        Edges.Scene stuck = Scenes.of(SEVEN_STUCK);
        e.fraction("7 of 7 by 0", stuck, x -> x.mid(0), 7, 1);
        e.fraction("7 of 7 by 1", stuck, x -> x.mid(1), 77, 12);
        e.fraction("7 of 7 by 6", stuck, x -> x.mid(6), 7, 2);
        e.fraction("7 of 7 by 11", stuck, x -> x.mid(11), 7, 12);
        e.fraction("7 of 7 by 12", stuck, x -> x.mid(12), 0, 1);
        Edges.Scene square = Scenes.of(Scenes.SQUARE);
        e.fraction("corners by 0", square, x -> x.mid(0), 0, 1);
        e.fraction("corners by 1", square, x -> x.mid(1), 11, 5184);
        e.fraction("corners by 6", square, x -> x.mid(6), 1, 4);
        e.fraction("corners by 11", square, x -> x.mid(11), 1331, 5184);
        e.fraction("corners by 12", square, x -> x.mid(12), 0, 1);
        // A KEY that is MISSED is no GHOST.
        e.fraction("all LINES are CUT", Scenes.then(square, x -> Checks.cuts(x, 0, 1)), x -> x.mid(6), 0, 1);
        e.aside("by 5", Scenes::rich, x -> x.mid(5));
        e.tells("asked() stays", Scenes::rich, x -> x.mid(5), 1, 3141);
    }

    private void chancesRefused() {
        int[] none = {MIN, -1, 13, 14, MAX};
        e.sentence(33, "BAD");
        for (int p : none) {
            e.refuses("p " + p, Scenes::rich, x -> x.odds(p), BAD);
            e.refuses("p " + p + " without KEYS: BAD, not STATE", Scenes::bare, x -> x.odds(p), BAD);
        }
        e.sentence(33, "STATE: no KEYS");
        e.refuses("p 0", Scenes::bare, x -> x.odds(0), STATE);
        e.refuses("p 12", Scenes::fresh, x -> x.odds(12), STATE);
        e.sentence(34, "BAD");
        for (int p : none) {
            e.refuses("p " + p, Scenes::rich, x -> x.mid(p), BAD);
            e.refuses("p " + p + " without KEYS: BAD, not STATE", Scenes::bare, x -> x.mid(p), BAD);
        }
        e.sentence(34, "STATE: no KEYS");
        e.refuses("p 0", Scenes::bare, x -> x.mid(0), STATE);
        e.refuses("p 12", Scenes::fresh, x -> x.mid(12), STATE);
    }

    private void lots() {
        e.sentence(35, "a number comes from the one ahead by 48271 times it modulo 2147483647, the first from the seed"
            + " (1 .. 2147483646)");
        // From 1 on: 48271 (key 1), 182605794 (a scan), 1291394886 (key 0), 1914720637 (key 3), 2078669041 (a scan).
        Edges.Scene square = Scenes.of(Scenes.SQUARE);
        int[][] want = {{0, 2, 1}, {1, 2, 1}, {1, 3, 2}, {1, 11, 4}, {2, 11, 4}};
        for (int n = 1; n <= 5; n++) {
            int many = n;
            Edges.Scene done = Scenes.then(square, x -> x.lots(many, 1));
            e.answers(n + " DEEDS, how many are TOLD", square, x -> x.lots(many, 1), want[n - 1][2]);
            e.answers(n + " DEEDS", done, x -> x.count(2), n);
            e.answers(n + " DEEDS, the SCAN", done, x -> x.count(1), want[n - 1][0]);
            e.answers(n + " DEEDS, PRESSED", done, x -> x.count(3), want[n - 1][1]);
        }
        Edges.Scene one = Scenes.then(square, x -> x.lots(1, 1));
        Edges.Scene two = Scenes.then(one, x -> x.lots(1, 48271));
        e.answers("the second number is the first from the first one", two, x -> x.count(1), 1);
        // The greatest seed leads to 2147483647 less 48271, 0 modulo 8, a line by 268429422.
        e.answers("the greatest seed", Scenes.then(square, x -> x.lots(1, MAX - 1)), x -> x.count(4), 4);
        e.answers("twenty DEEDS", Scenes.then(square, x -> x.lots(20, 7)), x -> x.count(2), 20);
        e.answers("twenty DEEDS, undone", Scenes.then(square, x -> x.lots(20, 7)), x -> x.undo(0), 20);
        e.tells("asked() stays", Scenes::rich, x -> Math.min(0, x.lots(3, 9)), 0, 3141);
    }

    private void lotsSorts() {
        // 48271 is 7 modulo 8: seeds 8, 7, 6, .. 1 lead to 0, 1, 2, .. 7 modulo 8; by 8, cut, they all are 6 modulo 7.
        Edges.Scene valves = Scenes.of("v000 v010 v020 v030 v040 v050 v100");
        e.sentence(35, "if it modulo 8 is 0, LINE (it by 8, cut, modulo 4) is CUT, or joined");
        int[] lines = {32, 24, 16, 8};
        for (int line = 0; line < 4; line++) {
            int seed = lines[line];
            e.answers("LINE " + line, Scenes.then(valves, x -> x.lots(1, seed)), x -> x.count(4), 1 << line);
            e.answers("LINE " + line + ", joined", Scenes.then(valves, x -> {
                x.lots(1, seed);
                x.lots(1, seed);
            }), x -> x.count(4), 0);
        }
        e.sentence(35, "if it is 1, 2 or 3, there is a SCAN");
        for (int modulo = 0; modulo < 8; modulo++) {
            int seed = 8 - modulo;
            e.answers(modulo + " modulo 8, the SCAN", Scenes.then(valves, x -> x.lots(1, seed)), x -> x.count(1),
                modulo >= 1 && modulo <= 3 ? 1 : 0);
        }
        e.sentence(35, "else KEY (it by 8, cut, modulo how many there are) is PRESSED, or let go: how many KEYS are TOLD");
        for (int modulo = 0; modulo < 8; modulo++) {
            int seed = 8 - modulo;
            e.answers(modulo + " modulo 8, PRESSED", Scenes.then(valves, x -> x.lots(1, seed)), x -> x.count(3),
                modulo >= 4 ? 64 : 0);
        }
        e.answers("of two KEYS", Scenes.of(Scenes.APART, x -> x.lots(1, 1)), x -> x.count(3), 2);
        e.answers("of two KEYS, the first", Scenes.of(Scenes.APART, x -> x.lots(1, 9)), x -> x.count(3), 1);
        e.answers("let go", Scenes.then(valves, x -> {
            x.press(6);
            x.lots(1, 1);
        }), x -> x.count(3), 0);
        e.answers("let go, HELD for 0", Scenes.then(valves, x -> {
            x.press(6);
            x.scan();
            x.lots(1, 1);
            x.key(6, 5);
        }), x -> x.asked(), 0);
    }

    private void lotsRefused() {
        e.sentence(35, "BAD");
        for (int n : new int[] {MIN, -1, 0, 21, 22, MAX}) {
            e.refuses("n " + n, Scenes::rich, x -> x.lots(n, 1), BAD);
            e.refuses("n " + n + " without KEYS: BAD, not STATE", Scenes::bare, x -> x.lots(n, 1), BAD);
            e.refuses("n " + n + " and seed 0", Scenes::rich, x -> x.lots(n, 0), BAD);
        }
        for (int seed : new int[] {MIN, -1, 0, MAX}) {
            e.refuses("seed " + seed, Scenes::rich, x -> x.lots(1, seed), BAD);
            e.refuses("seed " + seed + " without KEYS: BAD, not STATE", Scenes::bare, x -> x.lots(1, seed), BAD);
        }
        for (int seed : new int[] {1, 2, MAX - 2, MAX - 1}) {
            e.answers("seed " + seed, Scenes.then(Scenes::rich, x -> x.lots(1, seed)), x -> x.count(2), 9);
            e.answers("seed " + seed + ", twenty", Scenes.then(Scenes::rich, x -> x.lots(20, seed)), x -> x.count(2), 28);
        }
        e.answers("nineteen", Scenes.then(Scenes::rich, x -> x.lots(19, 1)), x -> x.count(2), 27);
        e.answers("two", Scenes.then(Scenes::rich, x -> x.lots(2, 1)), x -> x.count(2), 10);
        e.sentence(35, "STATE: no KEYS");
        e.refuses("one", Scenes::bare, x -> x.lots(1, 1), STATE);
        e.refuses("twenty", Scenes::fresh, x -> x.lots(20, MAX - 1), STATE);
    }

    private void lotsFull() {
        e.sentence(35, "FULL: with n more there would be more than 40 DEEDS");
        for (int n : new int[] {1, 2, 19, 20}) {
            Edges.Scene room = () -> Scenes.withDeeds(Scenes.rich(), 40 - n);
            Edges.Scene less = () -> Scenes.withDeeds(Scenes.rich(), 41 - n);
            e.answers(n + " up to 40", Scenes.then(room, x -> x.lots(n, 1)), x -> x.count(2), 40);
            e.refuses(n + " up to 41", less, x -> x.lots(n, 1), FULL);
            e.refuses(n + " behind 40", Scenes::full, x -> x.lots(n, 1), FULL);
        }
        e.sentence(35, "(FULL last.)");
        for (int n : new int[] {0, 21}) {
            e.refuses("n " + n + ", 40 DEEDS: BAD, not FULL", Scenes::full, x -> x.lots(n, 1), BAD);
        }
        for (int seed : new int[] {-1, 0, MAX}) {
            e.refuses("seed " + seed + ", 40 DEEDS: BAD, not FULL", Scenes::full, x -> x.lots(1, seed), BAD);
        }
    }
}
