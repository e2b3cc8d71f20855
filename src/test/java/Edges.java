import java.io.IOException;
import java.util.Arrays;

/** One sentence of the document after the other: what is due at its boundary, and one step to either side of it. */
final class Edges {
    static final int BAD = -1, FULL = -2, FINDING = -3, STATE = -4, NONE = -9;
    static final int NOTHING = 1, BEYOND = 2, UNLIKE = 3, NOUGHT = 4, SIZE = 5;
    static final int MIN = Integer.MIN_VALUE, MAX = Integer.MAX_VALUE;

    private static final int FINDINGS = 5, COUNTS = 11, KEPT = 3;

    /** An object that calls have brought to where it is; the same one each time. */
    interface Scene {
        StrayKeys make();
    }

    interface Call {
        long of(StrayKeys x);
    }

    private final Checks checks = new Checks("EdgesTest");
    private final Document document;
    private String name = "";

    Edges() throws IOException {
        document = new Document();
    }

    /** The checks that follow are for this sentence of a promise (0: the terms). */
    void sentence(int promise, String words) {
        name = "promise " + promise + ", '" + words + "': ";
        checks.yes(name + "the document says so", document.name(promise, words));
    }

    void due(String what, long got, long want) {
        checks.due(name + what, got, want);
    }

    void answers(String what, Scene scene, Call call, long want) {
        due(what, call.of(scene.make()), want);
    }

    /** An answer, and what asked() tells behind it. */
    void tells(String what, Scene scene, Call call, long want, int asked) {
        StrayKeys x = scene.make();
        due(what, call.of(x), want);
        due(what + ", asked()", x.asked(), asked);
    }

    /** An answer 1, and the fraction behind it. */
    void fraction(String what, Scene scene, Call call, long upper, long lower) {
        StrayKeys x = scene.make();
        due(what, call.of(x), 1);
        due(what + ", upper()", x.upper(), upper);
        due(what + ", lower()", x.lower(), lower);
    }

    /** BAD, FULL or STATE, or NONE: nothing at all has changed. */
    void refuses(String what, Scene scene, Call call, int answer) {
        StrayKeys x = scene.make();
        StrayKeys y = scene.make();
        due(what, call.of(x), answer);
        same(what + " leaves asked(), upper(), lower()", told(x), told(y));
        same(what + " leaves finding(), findings()", findings(x), findings(y));
        leavesState(what, scene, call);
    }

    /** A FINDING: finding() and findings() tell of it, nothing else has changed. */
    void finds(String what, Scene scene, Call call, int finding) {
        StrayKeys x = scene.make();
        StrayKeys y = scene.make();
        due(what, call.of(x), FINDING);
        same(what + " leaves asked(), upper(), lower()", told(x), told(y));
        long[] want = findings(y);
        want[0] = finding;
        want[finding]++;
        same(what + " is told by finding(), findings()", findings(x), want);
        leavesState(what, scene, call);
    }

    /** An answer that is none of the refusals, by a call that does nothing: but asked(), upper(), lower() may tell. */
    void aside(String what, Scene scene, Call call) {
        StrayKeys x = scene.make();
        StrayKeys y = scene.make();
        long got = call.of(x);
        checks.yes(name + what + " is answered: " + got, got >= 0 || got == NONE);
        same(what + " leaves finding(), findings()", findings(x), findings(y));
        leavesState(what, scene, call);
    }

    void end() {
        for (String sentence : document.left()) {
            checks.yes("a test is for " + sentence, false);
        }
        checks.yes("the document has 42 promises", document.hasPromises(42));
        checks.end();
    }

    private void same(String what, long[] got, long[] want) {
        String both = ": " + Arrays.toString(got) + ", due is " + Arrays.toString(want);
        boolean like = Arrays.equals(got, want);
        checks.yes(name + what + (like ? "" : both), like);
    }

    private static long[] told(StrayKeys x) {
        return new long[] {x.asked(), x.upper(), x.lower()};
    }

    private static long[] findings(StrayKeys x) {
        long[] seen = new long[FINDINGS + 1];
        seen[0] = x.finding();
        for (int f = 1; f <= FINDINGS; f++) {
            seen[f] = x.findings(f);
        }
        return seen;
    }

    /** What can be seen of an object is the same with the call and without it, its deeds and kept boards, too. */
    private void leavesState(String what, Scene scene, Call call) {
        for (int k = -1; k < KEPT; k++) {
            StrayKeys x = scene.make();
            StrayKeys y = scene.make();
            call.of(x);
            same(what + " leaves count(), digest()", counts(x), counts(y));
            same(what + (k < 0 ? " leaves its deeds" : " leaves the board kept at " + k), history(x, k), history(y, k));
        }
    }

    private static long[] counts(StrayKeys x) {
        long[] seen = new long[COUNTS + 1];
        for (int c = 0; c < COUNTS; c++) {
            seen[c] = x.count(c);
        }
        seen[COUNTS] = x.digest();
        return seen;
    }

    /** Digests while one deed after the other is undone; of the board kept at k, unless it is below 0. */
    private static long[] history(StrayKeys x, int k) {
        int answer = k < 0 ? 0 : x.on(k);
        int size = x.count(2);
        long[] seen = new long[size + 2];
        seen[0] = answer;
        seen[1] = x.digest();
        for (int d = size - 1; d >= 0; d--) {
            x.undo(d);
            seen[size + 1 - d] = x.digest();
        }
        return seen;
    }
}
