/** Counts answers that are not as due, and makes boards out of plain texts. */
final class Checks {
    private final String name;
    private int wrong = 0;
    private int made = 0;

    Checks(String name) {
        this.name = name;
    }

    void due(String what, long got, long want) {
        made++;
        if (got != want) {
            wrong++;
            System.out.println(name + ": " + what + " answered " + got + ", due is " + want);
        }
    }

    void yes(String what, boolean holds) {
        due(what, holds ? 1 : 0, 1);
    }

    /** The call is refused for a finding, which finding() and findings() then tell. */
    void found(StrayKeys x, String what, int got, int finding) {
        due(what, got, StrayKeys.FINDING);
        due(what + ", finding()", x.finding(), finding);
    }

    /** An answer, and what asked() tells behind it. */
    void told(StrayKeys x, String what, int got, int want, int asked) {
        due(what, got, want);
        due(what + ", asked()", x.asked(), asked);
    }

    void end() {
        System.out.println(name + ": " + made + " checks, " + wrong + " wrong");
        if (wrong != 0) {
            System.exit(1);
        }
    }

    static void write(StrayKeys x, int t, String signs) {
        x.text(t, signs.length());
        for (int i = 0; i < signs.length(); i++) {
            x.put(t, i, signs.charAt(i));
        }
    }

    static StrayKeys boardOf(String signs) {
        StrayKeys x = new StrayKeys();
        write(x, 0, signs);
        x.board(0);
        return x;
    }

    static void press(StrayKeys x, int... keys) {
        for (int i : keys) {
            x.press(i);
        }
    }

    static void cuts(StrayKeys x, int... lines) {
        for (int l : lines) {
            x.cut(l);
        }
    }

    static void scans(StrayKeys x, int n) {
        for (int s = 0; s < n; s++) {
            x.scan();
        }
    }

    static void layRow(StrayKeys x, int r, int... values) {
        x.row(r, values.length);
        for (int i = 0; i < values.length; i++) {
            x.lay(r, i, values[i]);
        }
    }
}
