/** The terms: refusals, sizes, kinds, what conducts, what is read, deeds. */
final class TermsEdges {
    private static final int BAD = Edges.BAD, FULL = Edges.FULL, STATE = Edges.STATE;
    /** A way over all four lines, and its columns 0, 1, 2, 5. */
    private static final String CHAIN = "k000 k100 k110 k210 k220 k320 k350";
    private static final int CHAIN_COLUMNS = 1 + 2 + 4 + 32;

    private final Edges e;

    TermsEdges(Edges e) {
        this.e = e;
    }

    void run() {
        calls();
        refusals();
        order();
        findings();
        fractions();
        bits();
        sizes();
        kinds();
        keysAndValves();
        shyAndStuck();
        tight();
        worn();
        ways();
        atFirst();
        reads();
        told();
        pressed();
        held();
        cut();
        deeds();
        aside();
        asideOfOneAnother();
        pairs();
    }

    private void calls() {
        e.sentence(0, "An object is used for at most 512 calls after it has been made");
        StrayKeys x = Checks.boardOf(Scenes.SQUARE);
        Checks.press(x, 0, 1, 2);
        int calls = 1 + Scenes.SQUARE.length() + 1 + 3;
        while (calls < 510) {
            x.told();
            calls++;
        }
        e.due("the call 511", x.press(3), 4);
        e.due("the call 512", x.told(), 15);
        e.sentence(0, "what later calls answer is free");
        for (int more = 0; more < 600; more++) {
            x.press(more % 4);
            x.lots(more % 22, more);
            x.undo(more % 41);
        }
        e.due("later calls end", 1, 1);
    }

    private void refusals() {
        e.sentence(0, "BAD -1 (a number that is none, or not as told), FULL -2, STATE -4 (not now), SPENT -6 (more than"
            + " told), FINDING -3 (finding() tells which)");
        e.due("BAD", StrayKeys.BAD, -1);
        e.due("FULL", StrayKeys.FULL, -2);
        e.due("FINDING", StrayKeys.FINDING, -3);
        e.due("STATE", StrayKeys.STATE, -4);
        e.due("SPENT", StrayKeys.SPENT, -6);
        e.sentence(0, "NONE -9");
        e.due("NONE", StrayKeys.NONE, -9);
        e.sentence(0, "What is refused changes nothing but finding(), findings()");
        e.refuses("BAD", Scenes::rich, x -> x.row(0, 41), BAD);
        e.refuses("FULL", Scenes::full, x -> x.scan(), FULL);
        e.refuses("STATE", Scenes::rich, x -> x.board(1), STATE);
        e.finds("NOTHING", Scenes::rich, x -> x.tear(2), Edges.NOTHING);
        e.finds("BEYOND", Scenes::rich, x -> x.put(3, 60, 1), Edges.BEYOND);
        e.finds("UNLIKE", Scenes::rich, x -> x.mark(0, 1), Edges.UNLIKE);
        e.finds("NOUGHT", Scenes::rich, x -> x.mean(1), Edges.NOUGHT);
        e.finds("SIZE", Scenes::rich, x -> x.text(3, -1), Edges.SIZE);
    }

    private void order() {
        e.sentence(0, "Refused is, the first of these that fits, in this order");
        e.refuses("BAD ahead of FULL", Scenes::full, x -> x.press(7), BAD);
        e.refuses("BAD ahead of STATE", Scenes::bare, x -> x.later(21), BAD);
        e.refuses("BAD ahead of FINDING", Scenes::rich, x -> x.row(6, -1), BAD);
        e.refuses("BAD ahead of STATE and FINDING", Scenes::bare, x -> x.kinds(0, 2), BAD);
        e.sentence(0, "unless a call says so otherwise");
        e.finds("board(): FINDING, not STATE", Scenes::rich, x -> x.board(2), Edges.NOTHING);
        e.refuses("cut(): STATE, not FULL", Scenes::bare, x -> x.cut(0), STATE);
    }

    private void findings() {
        e.sentence(0, "1 NOTHING (a ROW, a TEXT, a kept BOARD that is missing), 2 BEYOND (a place that there is not),"
            + " 3 UNLIKE (a KEY of another KIND");
        e.finds("a ROW", Scenes::rich, x -> x.at(2, 0), 1);
        e.finds("a TEXT", Scenes::rich, x -> x.fault(2), 1);
        e.finds("a kept BOARD", Scenes::rich, x -> x.on(1), 1);
        e.finds("a place", Scenes::rich, x -> x.at(0, 5), 2);
        e.finds("a KEY of another KIND", Scenes::rich, x -> x.mark(1, 2), 3);
        e.sentence(0, "a number that is none), 4 NOUGHT (shared among none), 5 SIZE (fewer than none");
        e.finds("a number", Scenes.then(Scenes::rich, x -> Checks.layRow(x, 0, 0, 128)), x -> x.kinds(0, 0), 3);
        e.finds("shared among none", Scenes::rich, x -> x.mean(1), 4);
        e.finds("fewer than none", Scenes::rich, x -> x.row(0, -1), 5);
        e.sentence(0, "not as many as due)");
        e.finds("not as many", Scenes::rich, x -> x.test(0, 4), 5);
    }

    private void fractions() {
        e.sentence(0, "Chances, means are told by upper(), lower(), in lowest terms, the lower number above 0 (0 by 1)");
        // The stuck key is told anyhow: right is what is told, if it is pressed, else it is a ghost.
        int[] upper = {0, 1, 1, 1, 1, 5, 1, 7, 2, 3, 5, 11, 1};
        int[] lower = {1, 12, 6, 4, 3, 12, 2, 12, 3, 4, 6, 12, 1};
        Edges.Scene stuck = Scenes.of("u000 k110");
        for (int p = 0; p <= 12; p++) {
            int chance = p;
            e.fraction("odds " + p, stuck, x -> x.odds(chance), upper[p], lower[p]);
            e.fraction("mid " + p, stuck, x -> x.mid(chance), upper[12 - p], lower[12 - p]);
        }
    }

    private void bits() {
        e.sentence(0, "Sets (of KEYS, KINDS, COLUMNS, LINES) are told by bits");
        Edges.Scene valves = Scenes.of("v000 v010 v020 v030 v040 v050 v300");
        for (int i = 0; i < 7; i++) {
            int k = i;
            e.answers("KEY " + i, Scenes.then(valves, x -> x.press(k)), x -> x.told(), 1 << i);
            e.answers("KEY " + i + ", pressed", Scenes.then(valves, x -> x.press(k)), x -> x.count(3), 1 << i);
        }
        for (int column = 0; column < 6; column++) {
            int k = column;
            e.answers("COLUMN " + column, Scenes.then(valves, x -> x.press(k)), x -> x.reads(0), 1 << column);
        }
        for (int line = 0; line < 4; line++) {
            int l = line;
            e.answers("LINE " + line, Scenes.then(valves, x -> x.cut(l)), x -> x.count(4), 1 << line);
        }
        Edges.Scene stuck = Scenes.of(Scenes.APART, x -> Checks.layRow(x, 0, 0, 1));
        e.answers("KIND 3 alone", stuck, x -> x.kinds(0, 0), 8);
        e.answers("all KINDS", Scenes.of(Scenes.APART, x -> x.row(0, 0)), x -> x.kinds(0, 0), 63);
    }

    private void sizes() {
        e.sentence(0, "ROWS 0 .. 5 are rows of 0 to 40 ints, TEXTS 0 .. 3 rows of 0 to 60 bytes, or missing (at first)");
        for (int place = -1; place <= 6; place++) {
            int p = place;
            boolean isRow = place >= 0 && place <= 5;
            boolean isText = place >= 0 && place <= 3;
            e.answers("ROW " + place + " of 0", Scenes::fresh, x -> x.row(p, 0), isRow ? 0 : BAD);
            e.answers("ROW " + place + " of 40", Scenes::fresh, x -> x.row(p, 40), isRow ? 40 : BAD);
            e.answers("TEXT " + place + " of 0", Scenes::fresh, x -> x.text(p, 0), isText ? 0 : BAD);
            e.answers("TEXT " + place + " of 60", Scenes::fresh, x -> x.text(p, 60), isText ? 60 : BAD);
            e.answers("ROW " + place + " at first", Scenes::fresh, x -> x.tear(p), isRow ? Edges.FINDING : BAD);
            e.answers("TEXT " + place + " at first", Scenes::fresh, x -> x.fault(p), isText ? Edges.FINDING : BAD);
        }
        e.sentence(0, "LINES 0 .. 3 are wires across, COLUMNS 0 .. 5 wires down");
        Edges.Scene corners = Scenes.of("u000 u050 u300 u350");
        for (int line = -1; line <= 4; line++) {
            int l = line;
            int want = line < 0 || line > 3 ? BAD : line % 3 == 0 ? 1 + 32 : 0;
            e.answers("LINE " + line, corners, x -> x.reads(l), want);
        }
    }

    private void kinds() {
        String[] sentences = {"0 KEY (k, 107), 1 VALVE (v, 118", "1 VALVE (v, 118", "a KEY), 2 SHY (s, 115",
            "a KEY), 3 STUCK (u, 117", "a KEY), 4 TIGHT (t, 116", "a VALVE), 5 WORN (w, 119"};
        int[] letters = {107, 118, 115, 117, 116, 119};
        for (int kind = 0; kind < 6; kind++) {
            e.sentence(0, sentences[kind]);
            char letter = (char) letters[kind];
            e.tells("the letter " + letter, Scenes.of(letter + "000 k110"), x -> x.key(0, 0), 1, kind);
            e.tells("the letter " + letter + ", last", Scenes.of("k000 " + letter + "110"), x -> x.key(1, 0), 1, kind);
        }
        e.sentence(0, "a VALVE), 5 WORN (w, 119");
        e.answers("TIGHT is a VALVE", Scenes.of("t000 k110"), x -> x.count(9), 1);
        e.sentence(0, "a SHY one)");
        e.answers("WORN is a SHY one", Scenes.of("w000 k110"), x -> x.count(10), 1);
    }

    /** Whether key 0 conducts, pressed or not, when so many scans have gone by. */
    private void conducts(String signs, boolean isPressed, int scans, boolean want) {
        Edges.Scene scene = Scenes.of(signs + " k350", x -> {
            if (isPressed) {
                x.press(0);
            }
            Checks.scans(x, scans);
        });
        String what = signs + (isPressed ? ", pressed" : "") + ", scan " + scans;
        e.tells(what + ", conducts", scene, x -> x.key(0, 6), 1, want ? 1 : 0);
        e.tells(what + ", told", scene, x -> x.key(0, 7), 1, want ? 1 : 0);
    }

    private void keysAndValves() {
        e.sentence(0, "A KEY CONDUCTS if it is PRESSED");
        e.sentence(0, "a VALVE as a KEY");
        for (String signs : new String[] {"k000", "k009", "v000", "v009"}) {
            for (int scans = 0; scans < 4; scans++) {
                conducts(signs, true, scans, true);
                conducts(signs, false, scans, false);
            }
        }
    }

    private void shyAndStuck() {
        e.sentence(0, "a SHY one as a KEY, but in SCANS of an even number alone");
        for (int scans = 0; scans < 40; scans++) {
            conducts("s003", true, scans, scans % 2 == 0);
            conducts("s003", false, scans, false);
        }
        e.sentence(0, "a STUCK one always");
        for (int scans = 0; scans < 4; scans++) {
            conducts("u009", true, scans, true);
            conducts("u009", false, scans, true);
        }
    }

    private void tight() {
        e.sentence(0, "a TIGHT one as a VALVE, but if it is HELD for as many SCANS as its DELAY, or more, alone");
        for (int delay = 0; delay <= 9; delay++) {
            if (delay > 0) {
                conducts("t00" + delay, true, delay - 1, false);
            }
            conducts("t00" + delay, true, delay, true);
            conducts("t00" + delay, true, delay + 1, true);
            conducts("t00" + delay, true, 39, true);
            conducts("t00" + delay, false, delay + 1, false);
        }
    }

    private void worn() {
        e.sentence(0, "a WORN one as a SHY one, but in SCANS that its DELAY and 1 divides alone");
        for (int delay = 0; delay <= 9; delay++) {
            for (int scans = 0; scans < 40; scans++) {
                conducts("w00" + delay, true, scans, scans % 2 == 0 && scans % (delay + 1) == 0);
            }
            conducts("w00" + delay, false, 0, false);
        }
    }

    private void ways() {
        String[] sentences = {"A KEY lets current through both ways",
            "a VALVE (TIGHT, too) from its LINE to its COLUMN alone"};
        // Line 0 comes to column 0; from there key 1 leads back to line 1, if it lets current back.
        for (String letter : new String[] {"k", "s", "u", "w", "v", "t"}) {
            boolean isValve = letter.equals("v") || letter.equals("t");
            e.sentence(0, sentences[isValve ? 1 : 0]);
            Edges.Scene scene = Scenes.of("k000 " + letter + "100 k110", x -> Checks.press(x, 0, 1, 2));
            e.answers(letter + ", from its COLUMN", scene, x -> x.reads(0), isValve ? 1 : 3);
            e.answers(letter + ", from its LINE", scene, x -> x.reads(1), 3);
        }
    }

    private void atFirst() {
        e.sentence(0, "At first it is SCAN 0, nothing is PRESSED, all LINES are whole");
        for (Edges.Scene scene : new Edges.Scene[] {Scenes::fresh, Scenes.of(Scenes.SQUARE)}) {
            e.answers("the SCAN", scene, x -> x.count(1), 0);
            e.answers("PRESSED", scene, x -> x.count(3), 0);
            e.answers("CUT", scene, x -> x.count(4), 0);
        }
    }

    private void reads() {
        e.sentence(0, "A LINE READS a COLUMN, if a current that begins at the LINE comes to it by KEYS that CONDUCT");
        Edges.Scene chain = Scenes.of(CHAIN, x -> Checks.press(x, 0, 1, 2, 3, 4, 5, 6));
        Edges.Scene broken = Scenes.then(chain, x -> x.press(3));
        for (int line = 0; line < 4; line++) {
            int l = line;
            e.answers("over all LINES from " + line, chain, x -> x.reads(l), CHAIN_COLUMNS);
            e.answers("one KEY let go, from " + line, broken, x -> x.reads(l), line < 2 ? 1 + 2 : 4 + 32);
        }
        e.sentence(0, "(no KEY on a LINE that is CUT lets any through)");
        int[][] want = {{0, 39, 39, 39}, {1, 0, 38, 38}, {3, 3, 0, 36}, {7, 7, 7, 0}};
        for (int cut = 0; cut < 4; cut++) {
            int severed = cut;
            for (int line = 0; line < 4; line++) {
                int l = line;
                Edges.Scene one = Scenes.then(chain, x -> x.cut(severed));
                Edges.Scene joined = Scenes.then(one, x -> x.cut(severed));
                e.answers("LINE " + cut + " is CUT, from " + line, one, x -> x.reads(l), want[cut][line]);
                e.answers("LINE " + cut + " is joined, from " + line, joined, x -> x.reads(l), CHAIN_COLUMNS);
            }
        }
    }

    private void told() {
        e.sentence(0, "A KEY is TOLD, if its LINE READS its COLUMN");
        e.answers("two corners", Scenes.of(Scenes.SQUARE, x -> Checks.press(x, 0, 1)), x -> x.told(), 3);
        e.answers("three corners", Scenes.of(Scenes.SQUARE, x -> Checks.press(x, 0, 1, 2)), x -> x.told(), 15);
        e.answers("a STUCK one on a CUT LINE", Scenes.of("u000 u110", x -> x.cut(0)), x -> x.told(), 2);
        e.sentence(0, "A GHOST is TOLD and not PRESSED");
        Edges.Scene three = Scenes.of(Scenes.SQUARE, x -> Checks.press(x, 0, 1, 2));
        e.answers("the fourth corner", three, x -> x.ghosts(), 8);
        e.answers("PRESSED, it is none", Scenes.then(three, x -> x.press(3)), x -> x.ghosts(), 0);
        e.sentence(0, "MISSED is a KEY that is PRESSED and not TOLD");
        e.tells("PRESSED on a CUT LINE", Scenes.then(three, x -> x.cut(1)), x -> x.ghosts(), 0, 4);
        e.tells("joined again", Scenes.then(three, x -> Checks.cuts(x, 1, 1)), x -> x.ghosts(), 8, 0);
    }

    private void pressed() {
        e.sentence(0, "a KEY is PRESSED, or let go, if it is");
        Edges.Scene square = Scenes.of(Scenes.SQUARE);
        e.answers("once", Scenes.then(square, x -> Checks.press(x, 3)), x -> x.count(3), 8);
        e.answers("twice", Scenes.then(square, x -> Checks.press(x, 3, 3)), x -> x.count(3), 0);
        e.answers("three times", Scenes.then(square, x -> Checks.press(x, 3, 3, 3)), x -> x.count(3), 8);
    }

    private void held() {
        e.sentence(0, "(then each that is PRESSED is HELD for one more, 9 at most");
        Edges.Scene one = Scenes.of(Scenes.SQUARE, x -> x.press(0));
        for (int scans : new int[] {0, 1, 8, 9, 10, 39}) {
            Edges.Scene then = Scenes.then(one, x -> Checks.scans(x, scans));
            e.tells("PRESSED, " + scans + " SCANS", then, x -> x.key(0, 5), 1, Math.min(9, scans));
            e.tells("not PRESSED, " + scans + " SCANS", then, x -> x.key(1, 5), 1, 0);
        }
        e.sentence(0, "one that is PRESSED, let go is HELD for 0)");
        for (int scans : new int[] {1, 9, 10}) {
            Edges.Scene go = Scenes.then(one, x -> {
                Checks.scans(x, scans);
                x.press(0);
            });
            e.tells("let go behind " + scans, go, x -> x.key(0, 5), 1, 0);
            e.tells("a SCAN later", Scenes.then(go, x -> x.scan()), x -> x.key(0, 5), 1, 0);
            Edges.Scene again = Scenes.then(go, x -> x.press(0));
            e.tells("PRESSED again", again, x -> x.key(0, 5), 1, 0);
            e.tells("PRESSED again, a SCAN later", Scenes.then(again, x -> x.scan()), x -> x.key(0, 5), 1, 1);
        }
    }

    private void cut() {
        e.sentence(0, "a LINE is CUT, or joined, if it is");
        Edges.Scene square = Scenes.of(Scenes.SQUARE);
        e.answers("once", Scenes.then(square, x -> x.cut(3)), x -> x.count(4), 8);
        e.answers("twice", Scenes.then(square, x -> Checks.cuts(x, 3, 3)), x -> x.count(4), 0);
        e.answers("all", Scenes.then(square, x -> Checks.cuts(x, 0, 1, 2, 3)), x -> x.count(4), 15);
    }

    private void deeds() {
        e.sentence(0, "These are DEEDS (40 at most)");
        Edges.Scene last = () -> Scenes.withDeeds(Scenes.rich(), 39);
        e.answers("39 of them", last, x -> x.count(2), 39);
        Edges.Call[] sorts = {x -> x.press(0), x -> x.scan(), x -> x.cut(0), x -> x.lots(1, 1)};
        for (int sort = 0; sort < sorts.length; sort++) {
            Edges.Call deed = sorts[sort];
            e.answers("the fortieth, sort " + sort, Scenes.then(last, x -> deed.of(x)), x -> x.count(2), 40);
            e.refuses("one more, sort " + sort, Scenes::full, deed, FULL);
            Edges.Scene undone = Scenes.then(Scenes::full, x -> x.undo(39));
            e.answers("one undone, sort " + sort, Scenes.then(undone, x -> deed.of(x)), x -> x.count(2), 40);
        }
    }

    private void aside() {
        e.sentence(0, "---- 3 what is told (aside)");
        e.aside("told", Scenes::full, x -> x.told());
        e.aside("ghosts", Scenes::full, x -> x.ghosts());
        e.aside("later", Scenes::full, x -> x.later(20));
        e.aside("would", Scenes::full, x -> x.would(127));
        e.sentence(0, "---- 4 sets (aside: as by would())");
        for (int key = 0; key < 7; key++) {
            int i = key;
            e.aside("haunts " + key, Scenes::full, x -> x.haunts(i));
        }
        e.aside("right", Scenes::full, x -> x.right());
        e.aside("alike", Scenes::full, x -> x.alike());
        e.aside("best", Scenes::full, x -> x.best());
        // As by would(): the tight key is HELD for as many SCANS as it is, so its set is right behind its delay.
        Edges.Scene once = Scenes.of("t002 k110", x -> {
            x.press(0);
            x.scan();
        });
        e.answers("HELD for 1 of 2", once, x -> x.right(), 2);
        e.answers("HELD for 2 of 2", Scenes.then(once, x -> x.scan()), x -> x.right(), 4);
        e.answers("let go", Scenes.then(once, x -> Checks.press(x, 0)), x -> x.right(), 2);
    }

    /** What one of these calls is asked leaves nothing behind that another one's answer shows. */
    private void asideOfOneAnother() {
        e.sentence(0, "---- 3 what is told (aside)");
        Edges.Call[] calls = {x -> x.told(), x -> x.ghosts(), x -> x.later(20), x -> x.would(99), x -> x.haunts(3),
            x -> x.right(), x -> x.alike(), x -> x.best(), x -> x.kinds(0, 1), x -> x.kinds(6, 3), x -> x.places(2, 1),
            x -> x.places(5, 3), x -> x.test(1, 1), x -> x.test(6, 3), x -> x.duel(4), x -> x.odds(7), x -> x.mid(7),
            x -> x.fault(0), x -> x.fault(1), x -> x.fault(2), x -> x.mark(4, 1), x -> x.mark(5, 2), x -> x.mark(3, 3),
            x -> x.mark(4, 4), x -> x.mark(5, 5), x -> x.reads(3), x -> x.key(0, 7), x -> x.count(5), x -> x.digest()};
        Edges.Scene scene = Scenes.then(Scenes::rich, x -> {
            Checks.write(x, 2, "u310 u000 u210");
            Checks.layRow(x, 3, 0, 8, 127, x.would(127));
        });
        for (int first = 0; first < calls.length; first++) {
            for (int second = 0; second < calls.length; second++) {
                Edges.Call ahead = calls[first];
                Edges.Call behind = calls[second];
                StrayKeys alone = scene.make();
                long want = behind.of(alone);
                Edges.Scene both = Scenes.then(scene, x -> ahead.of(x));
                e.answers("call " + second + " behind call " + first, both, behind, want);
            }
        }
    }

    private void pairs() {
        e.sentence(0, "(a ROW of pairs of sets, each 0 .. as many as are there: PRESSED, then TOLD");
        Edges.Scene apart = Scenes.of(Scenes.APART);
        e.answers("none PRESSED, KEY 0 TOLD", Scenes.then(apart, x -> Checks.layRow(x, 0, 0, 1)),
            x -> x.kinds(0, 0), 8);
        e.answers("KEY 0 PRESSED, none TOLD", Scenes.then(apart, x -> Checks.layRow(x, 0, 1, 0)),
            x -> x.kinds(0, 0), 0);
        e.answers("all and all", Scenes.then(apart, x -> Checks.layRow(x, 0, 3, 3)), x -> x.kinds(0, 0), 63);
        e.sentence(0, "as by would())");
        Edges.Scene held = Scenes.of("k002 k110", x -> {
            x.press(0);
            Checks.scans(x, 1);
            Checks.layRow(x, 0, 1, 0);
        });
        // SCAN 1 is odd, so SHY and WORN do not conduct; TIGHT does when HELD for 2.
        e.answers("HELD for 1 of 2", held, x -> x.kinds(0, 0), 4 + 16 + 32);
        e.answers("HELD for 3 of 2", Scenes.then(held, x -> Checks.scans(x, 2)), x -> x.kinds(0, 0), 4 + 32);
    }
}
