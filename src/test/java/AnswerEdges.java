import java.math.BigInteger;

/** Promises 36 to 42: what is told of answers, counts, findings, the digest. */
final class AnswerEdges {
    private static final int BAD = Edges.BAD, MIN = Edges.MIN, MAX = Edges.MAX;

    private final Edges e;

    AnswerEdges(Edges e) {
        this.e = e;
    }

    void run() {
        asked();
        askedStays();
        askedRefused();
        fractions();
        count();
        countRefused();
        finding();
        findings();
        digest();
        digestMissing();
    }

    private void asked() {
        e.sentence(36, "What the latest lay(), at(), mean(), key(), told(), ghosts(), later(), haunts(), right(), alike(),"
            + " best(), places(), test()");
        Edges.Scene square = Scenes.of(Scenes.SQUARE, x -> {
            Checks.layRow(x, 0, 7, 15, 100, 3141);
            x.row(1, 0);
            Checks.press(x, 0, 1, 2);
            x.at(0, 3);
        });
        e.answers("at", square, x -> x.asked(), 3141);
        asks("lay", square, x -> x.lay(0, 0, 1), 7);
        asks("at", square, x -> x.at(0, 1), 15);
        asks("mean", square, x -> x.mean(0), 815);
        asks("key", square, x -> x.key(3, 1), 1);
        asks("told", square, x -> x.told(), 1);
        asks("ghosts", Scenes.then(square, x -> x.cut(1)), x -> x.ghosts(), 4);
        asks("later", square, x -> x.later(5), 1);
        asks("haunts", square, x -> x.haunts(0), 3);
        asks("right", square, x -> x.right(), 2);
        asks("alike", square, x -> x.alike(), 7);
        asks("best", square, x -> x.best(), 13);
        asks("places", square, x -> x.places(3, 1), 2);
        asks("test", square, x -> x.test(3, 1), 4);
        asks("key, a nought", square, x -> x.key(3, 4), 0);
        asks("right, below nought", Scenes.of("u000 k110"), x -> x.right(), -1);
        e.sentence(36, "0 before");
        e.answers("a new object", Scenes::fresh, x -> x.asked(), 0);
        e.answers("a BOARD", Scenes.of(Scenes.SQUARE), x -> x.asked(), 0);
        e.answers("refused calls alone", Scenes.then(Scenes::fresh, x -> {
            x.at(0, 0);
            x.key(0, 0);
            x.right();
        }), x -> x.asked(), 0);
    }

    private void asks(String what, Edges.Scene scene, Edges.Call call, int want) {
        e.answers(what, Scenes.then(scene, x -> call.of(x)), x -> x.asked(), want);
        e.answers(what + ", asked() twice", Scenes.then(scene, x -> {
            call.of(x);
            x.asked();
        }), x -> x.asked(), want);
    }

    /** Of all other calls asked() does not tell. */
    private void askedStays() {
        e.sentence(36, "What the latest lay(), at(), mean(), key(), told(), ghosts(), later(), haunts(), right(), alike(),"
            + " best(), places(), test()");
        Edges.Call[] others = {x -> x.row(2, 3), x -> x.tear(0), x -> x.copy(0, 0, 5, 0, 1), x -> x.text(2, 3),
            x -> x.put(3, 0, 1), x -> x.fault(1), x -> x.fault(0), x -> x.board(0), x -> x.mark(1, 1), x -> x.mark(5, 5),
            x -> x.reads(0), x -> x.press(1), x -> x.scan(), x -> x.cut(1), x -> x.undo(3), x -> x.keep(1), x -> x.on(0),
            x -> x.would(9), x -> x.kinds(0, 1), x -> x.duel(4), x -> x.odds(4), x -> x.mid(4), x -> x.lots(9, 9),
            x -> x.asked(), x -> x.upper(), x -> x.lower(), x -> x.count(5), x -> x.finding(), x -> x.findings(1),
            x -> x.digest()};
        for (int k = 0; k < others.length; k++) {
            Edges.Call call = others[k];
            e.answers("another call, " + k, Scenes.then(Scenes::rich, x -> call.of(x)), x -> x.asked(), 3141);
        }
    }

    private void askedRefused() {
        e.sentence(36, "that was not refused (nor answered NONE) told");
        Edges.Call[] refused = {x -> x.lay(6, 0, 1), x -> x.lay(2, 0, 1), x -> x.lay(0, 5, 1), x -> x.at(-1, 0),
            x -> x.at(2, 0), x -> x.at(0, -1), x -> x.mean(6), x -> x.mean(2), x -> x.mean(1), x -> x.key(7, 0),
            x -> x.key(0, 8), x -> x.later(21), x -> x.haunts(7), x -> x.places(7, 1), x -> x.places(0, 2),
            x -> x.places(0, 4), x -> x.places(0, 5), x -> x.test(7, 1), x -> x.test(0, 2), x -> x.test(0, 4),
            x -> x.test(0, 5)};
        for (int k = 0; k < refused.length; k++) {
            Edges.Call call = refused[k];
            e.answers("refused, " + k, Scenes.then(Scenes::rich, x -> call.of(x)), x -> x.asked(), 3141);
        }
        Edges.Scene none = Scenes.of(Scenes.APART, x -> {
            Checks.layRow(x, 0, 0, 1, 0, 0);
            x.lay(0, 2, 0);
            Checks.layRow(x, 1, 3141);
            x.at(1, 0);
        });
        Edges.Call[] answeredNone = {x -> x.haunts(0), x -> x.best(), x -> x.places(0, 0), x -> x.test(0, 0)};
        for (int k = 0; k < answeredNone.length; k++) {
            Edges.Call call = answeredNone[k];
            e.answers("NONE, " + k, none, call, Edges.NONE);
            e.answers("NONE, " + k + ", asked()", Scenes.then(none, x -> call.of(x)), x -> x.asked(), 3141);
        }
        Edges.Call[] state = {x -> x.later(0), x -> x.right(), x -> x.alike(), x -> x.best()};
        for (int k = 0; k < state.length; k++) {
            Edges.Call call = state[k];
            e.answers("STATE, " + k, Scenes.then(Scenes::bare, x -> call.of(x)), x -> x.asked(), 3141);
        }
    }

    private void fractions() {
        Edges.Scene square = Scenes.of(Scenes.SQUARE);
        Edges.Scene odds = Scenes.then(square, x -> x.odds(6));
        Edges.Scene mid = Scenes.then(odds, x -> x.mid(1));
        e.sentence(37, "The upper number that was told last");
        e.answers("odds", odds, x -> x.upper(), 3);
        e.answers("mid behind odds", mid, x -> x.upper(), 11);
        e.answers("odds behind mid", Scenes.then(mid, x -> x.odds(0)), x -> x.upper(), 1);
        e.answers("refused", Scenes.then(mid, x -> x.odds(13)), x -> x.upper(), 11);
        e.answers("a BOARD anew", Scenes.then(mid, x -> x.board(0)), x -> x.upper(), 11);
        e.sentence(37, "0 before");
        e.answers("a new object", Scenes::fresh, x -> x.upper(), 0);
        e.answers("refused", Scenes.then(square, x -> x.odds(13)), x -> x.upper(), 0);
        e.answers("mean() tells by asked()", Scenes.then(Scenes::bare, x -> x.mean(0)), x -> x.upper(), 0);
        e.sentence(38, "Its lower number");
        e.answers("odds", odds, x -> x.lower(), 4);
        e.answers("mid behind odds", mid, x -> x.lower(), 5184);
        e.answers("odds behind mid", Scenes.then(mid, x -> x.odds(0)), x -> x.lower(), 1);
        e.answers("refused", Scenes.then(mid, x -> x.mid(-1)), x -> x.lower(), 5184);
        e.answers("a nought", Scenes.then(mid, x -> x.mid(0)), x -> x.lower(), 1);
        e.sentence(38, "1 before");
        e.answers("a new object", Scenes::fresh, x -> x.lower(), 1);
        e.answers("refused", Scenes.then(square, x -> x.mid(13)), x -> x.lower(), 1);
    }

    private void count() {
        e.sentence(39, "0 KEYS, 1 the SCAN, 2 DEEDS, 3 those that are PRESSED (bits), 4 LINES that are CUT (bits), 5 how many"
            + " are TOLD, 6 ROWS, 7 TEXTS that are there, 8 kept BOARDS, 9 VALVES (TIGHT ones, too), 10 SHY ones (WORN,"
            + " too)");
        int[] rich = {7, 2, 8, 59, 4, 4, 4, 3, 2, 2, 2};
        int[] bare = {0, 0, 0, 0, 0, 0, 4, 2, 0, 0, 0};
        int[] all = {7, 19, 40, 127, 15, 0, 6, 4, 3, 7, 0};
        Edges.Scene most = Scenes.of("v000 v010 v020 t100 t110 t120 v350", x -> {
            Checks.press(x, 0, 1, 2, 3, 4, 5, 6);
            Checks.cuts(x, 0, 1, 2, 3);
            Checks.press(x, 0, 0, 0, 0, 0, 0, 0, 0, 0, 0);
            Checks.scans(x, 19);
            for (int place = 0; place < 6; place++) {
                x.row(place, 0);
                x.text(place, 0);
                x.keep(place);
            }
        });
        for (int what = 0; what <= 10; what++) {
            int c = what;
            e.answers("rich, " + what, Scenes::rich, x -> x.count(c), rich[what]);
            e.answers("bare, " + what, Scenes::bare, x -> x.count(c), bare[what]);
            e.answers("a new object, " + what, Scenes::fresh, x -> x.count(c), 0);
            e.answers("the most, " + what, most, x -> x.count(c), all[what]);
            e.aside("rich, " + what, Scenes::rich, x -> x.count(c));
        }
        e.answers("SHY ones, the most", Scenes.of("s000 s010 s020 w100 w110 w120 s350"), x -> x.count(10), 7);
        e.answers("TOLD, the most", Scenes.of("u000 u010 u020 u100 u110 u120 u350"), x -> x.count(5), 7);
        e.answers("a STUCK one is no VALVE", Scenes.of("u000 k110"), x -> x.count(9), 0);
        e.answers("a STUCK one is not SHY", Scenes.of("u000 k110"), x -> x.count(10), 0);
    }

    private void countRefused() {
        e.sentence(39, "BAD");
        for (int what : new int[] {MIN, -1, 11, 12, MAX}) {
            e.refuses("what " + what, Scenes::rich, x -> x.count(what), BAD);
            e.refuses("what " + what + ", a new object", Scenes::fresh, x -> x.count(what), BAD);
        }
    }

    private void finding() {
        e.sentence(40, "The latest FINDING (0 before any)");
        e.answers("a new object", Scenes::fresh, x -> x.finding(), 0);
        Edges.Scene bad = Scenes.then(Scenes::fresh, x -> {
            x.row(6, -1);
            x.scan();
            x.count(11);
        });
        e.answers("BAD, STATE are none", bad, x -> x.finding(), 0);
        e.answers("NONE is none", Scenes.of(Scenes.APART, x -> x.haunts(0)), x -> x.finding(), 0);
        Edges.Call[] five = {x -> x.tear(2), x -> x.at(0, 5), x -> x.mark(0, 1), x -> x.mean(1), x -> x.row(0, -1)};
        for (int f = 0; f < five.length; f++) {
            Edges.Call call = five[f];
            Edges.Scene found = Scenes.then(Scenes::rich, x -> call.of(x));
            e.answers("FINDING " + (f + 1), found, x -> x.finding(), f + 1);
            e.answers("FINDING " + (f + 1) + ", BAD behind it", Scenes.then(found, x -> x.row(9, 9)), x -> x.finding(), f + 1);
            e.answers("FINDING " + (f + 1) + ", an answer behind it", Scenes.then(found, x -> x.told()), x -> x.finding(),
                f + 1);
            e.answers("FINDING " + (f + 1) + ", a BOARD anew behind it", Scenes.then(found, x -> x.board(0)),
                x -> x.finding(), f + 1);
        }
    }

    private void findings() {
        e.sentence(41, "How often a FINDING (1 .. 5) was answered");
        // rich() has had NOTHING, NOUGHT, SIZE, UNLIKE once, BEYOND twice.
        int[] want = {1, 2, 1, 1, 1};
        for (int finding = 1; finding <= 5; finding++) {
            int f = finding;
            e.answers("a new object, " + finding, Scenes::fresh, x -> x.findings(f), 0);
            e.answers("rich, " + finding, Scenes::rich, x -> x.findings(f), want[finding - 1]);
            e.aside("rich, " + finding, Scenes::rich, x -> x.findings(f));
        }
        e.answers("four hundred", Scenes.then(Scenes::fresh, x -> {
            for (int n = 0; n < 400; n++) {
                x.tear(0);
            }
        }), x -> x.findings(1), 400);
        e.sentence(41, "BAD");
        for (int f : new int[] {MIN, -1, 0, 6, 7, MAX}) {
            e.refuses("FINDING " + f, Scenes::rich, x -> x.findings(f), BAD);
        }
    }

    private void digest() {
        e.sentence(42, "h = 17");
        e.answers("a new object", Scenes::fresh, x -> x.digest(), mixed(Scenes.fresh(), new int[] {-1, -1, -1},
            new int[6][], new int[4][]));
        e.sentence(42, "then h = 31 h + v for each v: count() 0 to 10");
        int[][] rows = new int[6][];
        int[][] texts = new int[4][];
        rows[0] = new int[] {3, 1, 4, 1, 3141};
        rows[1] = new int[0];
        rows[4] = new int[] {-7};
        rows[5] = new int[40];
        rows[5][0] = 11;
        rows[5][39] = -12;
        texts[1] = signs("k000k000");
        texts[3] = signs(" ".repeat(59) + "k");
        e.answers("bare", Scenes::bare, x -> x.digest(), mixed(Scenes.bare(), new int[] {-1, -1, -1}, rows, texts));
        e.sentence(42, "of each KEY key() 0 to 7");
        texts[0] = signs(Scenes.ALL_KINDS);
        e.answers("rich", Scenes::rich, x -> x.digest(), mixed(Scenes.rich(), new int[] {2, -1, 5}, rows, texts));
        e.answers("full", Scenes::full, x -> x.digest(), mixed(Scenes.full(), new int[] {2, -1, 5}, rows, texts));
        e.aside("asked() stays", Scenes::rich, x -> x.digest() & 1);
        texts[2] = new int[] {-128, 127, -1, 0};
        Edges.Scene bytes = Scenes.then(Scenes::rich, x -> {
            x.text(2, 4);
            x.put(2, 0, 128);
            x.put(2, 1, 127);
            x.put(2, 2, 255);
            x.put(2, 3, 256);
        });
        e.answers("bytes below 0", bytes, x -> x.digest(), mixed(bytes.make(), new int[] {2, -1, 5}, rows, texts));
    }

    private void digestMissing() {
        e.sentence(42, "of each kept BOARD how many DEEDS (-1: missing)");
        int[][] texts = {signs(Scenes.APART), null, null, null};
        Edges.Scene apart = Scenes.of(Scenes.APART);
        for (int place = 0; place < 3; place++) {
            int k = place;
            int[] kept = {-1, -1, -1};
            kept[place] = 0;
            Edges.Scene scene = Scenes.then(apart, x -> x.keep(k));
            e.answers("no DEEDS at " + place, scene, x -> x.digest(), mixed(scene.make(), kept, new int[6][], texts));
        }
        e.sentence(42, "of each ROW its size (-1: missing) and places, of each TEXT likewise");
        for (int place = 0; place < 6; place++) {
            int p = place;
            int[][] rows = new int[6][];
            rows[place] = new int[] {0, MIN};
            Edges.Scene scene = Scenes.then(apart, x -> Checks.layRow(x, p, 0, MIN));
            int[] kept = {-1, -1, -1};
            e.answers("ROW " + place, scene, x -> x.digest(), mixed(scene.make(), kept, rows, texts));
            rows[place] = null;
            e.answers("ROW " + place + ", torn", Scenes.then(scene, x -> x.tear(p)), x -> x.digest(),
                mixed(apart.make(), kept, rows, texts));
            int[][] none = new int[4][];
            if (place < 4) {
                none[place] = new int[0];
                Edges.Scene empty = Scenes.then(Scenes::fresh, x -> x.text(p, 0));
                e.answers("TEXT " + place + ", empty", empty, x -> x.digest(), mixed(empty.make(), kept, rows, none));
            }
        }
    }

    private static int[] signs(String words) {
        return words.chars().toArray();
    }

    /** The digest in numbers without an end, cut to 64 bits at last. */
    private static long mixed(StrayKeys x, int[] kept, int[][] rows, int[][] texts) {
        BigInteger[] h = {BigInteger.valueOf(17)};
        for (int what = 0; what <= 10; what++) {
            mix(h, x.count(what));
        }
        for (int i = 0; i < x.count(0); i++) {
            for (int what = 0; what <= 7; what++) {
                x.key(i, what);
                mix(h, x.asked());
            }
        }
        for (int many : kept) {
            mix(h, many);
        }
        mixAll(h, rows);
        mixAll(h, texts);
        return h[0].longValue();
    }

    private static void mixAll(BigInteger[] h, int[][] shelf) {
        for (int[] values : shelf) {
            mix(h, values == null ? -1 : values.length);
            for (int k = 0; values != null && k < values.length; k++) {
                mix(h, values[k]);
            }
        }
    }

    private static void mix(BigInteger[] h, long v) {
        h[0] = h[0].multiply(BigInteger.valueOf(31)).add(BigInteger.valueOf(v));
    }
}
