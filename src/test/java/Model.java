import java.math.BigInteger;
import java.util.ArrayDeque;
import java.util.ArrayList;
import java.util.Arrays;
import java.util.HashMap;
import java.util.HashSet;
import java.util.List;
import java.util.Map;
import java.util.Set;

/** The document once more, in another way: keys are objects of classes, each state is a copy of its own. */
public final class Model {
    private static final int BAD = -1, FULL = -2, FINDING = -3, STATE = -4, NONE = -9;

    /** A key and what its kind makes of it. */
    private static class Key {
        int line, column, delay, held;
        boolean pressed;

        int kind() {
            return 0;
        }

        boolean conducts(int scan) {
            return pressed;
        }

        boolean back() {
            return true;
        }
    }

    private static class Valve extends Key {
        @Override int kind() {
            return 1;
        }

        @Override boolean back() {
            return false;
        }
    }

    private static class Shy extends Key {
        @Override int kind() {
            return 2;
        }

        @Override boolean conducts(int scan) {
            return super.conducts(scan) && (scan & 1) == 0;
        }
    }

    private static final class Stuck extends Key {
        @Override int kind() {
            return 3;
        }

        @Override boolean conducts(int scan) {
            return true;
        }
    }

    private static final class Tight extends Valve {
        @Override int kind() {
            return 4;
        }

        @Override boolean conducts(int scan) {
            return super.conducts(scan) && held >= delay;
        }
    }

    private static final class Worn extends Shy {
        @Override int kind() {
            return 5;
        }

        @Override boolean conducts(int scan) {
            return super.conducts(scan) && scan / (delay + 1) * (delay + 1) == scan;
        }
    }

    private static Key make(int kind) {
        switch (kind) {
            case 0: return new Key();
            case 1: return new Valve();
            case 2: return new Shy();
            case 3: return new Stuck();
            case 4: return new Tight();
            default: return new Worn();
        }
    }

    private static Key as(Key k, int kind) {
        Key made = make(kind);
        made.line = k.line;
        made.column = k.column;
        made.delay = k.delay;
        made.held = k.held;
        made.pressed = k.pressed;
        return made;
    }

    private static boolean is(Key k, int kind) {
        switch (kind) {
            case 1: return k instanceof Valve;
            case 2: return k instanceof Shy;
            case 3: return k instanceof Stuck;
            case 4: return k instanceof Tight;
            default: return k instanceof Worn;
        }
    }

    /** A board at one moment. */
    private static final class Board {
        final List<Key> keys = new ArrayList<>();
        final Set<Integer> cut = new HashSet<>();
        int scan;

        Board copy() {
            Board b = new Board();
            for (Key k : keys) {
                b.keys.add(as(k, k.kind()));
            }
            b.cut.addAll(cut);
            b.scan = scan;
            return b;
        }

        Board with(int i, int kind) {
            Board b = copy();
            b.keys.set(i, as(keys.get(i), kind));
            return b;
        }

        Board pressing(int set) {
            Board b = copy();
            for (int i = 0; i < keys.size(); i++) {
                b.keys.get(i).pressed = (set >> i & 1) == 1;
            }
            return b;
        }

        Set<Integer> reads(int line) {
            Set<Integer> seen = new HashSet<>();
            ArrayDeque<Integer> todo = new ArrayDeque<>();
            todo.add(line);
            seen.add(line);
            while (!todo.isEmpty()) {
                int wire = todo.poll();
                for (Key k : keys) {
                    if (cut.contains(k.line) || !k.conducts(scan)) {
                        continue;
                    }
                    if (k.line == wire && seen.add(100 + k.column)) {
                        todo.add(100 + k.column);
                    }
                    if (100 + k.column == wire && k.back() && seen.add(k.line)) {
                        todo.add(k.line);
                    }
                }
            }
            return seen;
        }

        int told() {
            int bits = 0;
            for (int i = 0; i < keys.size(); i++) {
                Key k = keys.get(i);
                if (reads(k.line).contains(100 + k.column)) {
                    bits |= 1 << i;
                }
            }
            return bits;
        }

        int pressed() {
            int bits = 0;
            for (int i = 0; i < keys.size(); i++) {
                bits |= keys.get(i).pressed ? 1 << i : 0;
            }
            return bits;
        }

        int ghosts() {
            return told() & ~pressed();
        }

        int sets() {
            return 1 << keys.size();
        }

        int right() {
            int n = 0;
            for (int s = 0; s < sets(); s++) {
                n += pressing(s).told() == s ? 1 : 0;
            }
            return n;
        }

        void press(int i) {
            Key k = keys.get(i);
            k.pressed = !k.pressed;
            k.held = 0;
        }

        void pass() {
            scan++;
            for (Key k : keys) {
                if (k.pressed && k.held < 9) {
                    k.held++;
                }
            }
        }

        void cut(int l) {
            if (!cut.remove(l)) {
                cut.add(l);
            }
        }
    }

    private final int[][] rows = new int[6][];
    private final byte[][] texts = new byte[4][];
    /** The board ahead of each deed and, as the last, behind all. */
    private List<Board> story = new ArrayList<>(List.of(new Board()));
    private final List<List<Board>> kept = new ArrayList<>(Arrays.asList(null, null, null));
    private final int[] found = new int[6];
    private int latest, asked;
    private long upper = 0, lower = 1;

    private Board now() {
        return story.get(story.size() - 1);
    }

    private int size() {
        return now().keys.size();
    }

    private int find(int f) {
        latest = f;
        found[f]++;
        return FINDING;
    }

    private int ask(int a, int result) {
        asked = a;
        return result;
    }

    private static boolean out(int v, int n) {
        return v < 0 || v >= n;
    }

    public int row(int r, int n) {
        if (out(r, 6) || n > 40) return BAD;
        if (n < 0) return find(5);
        rows[r] = new int[n];
        return n;
    }

    public int lay(int r, int i, int v) {
        if (out(r, 6)) return BAD;
        if (rows[r] == null) return find(1);
        if (out(i, rows[r].length)) return find(2);
        asked = rows[r][i];
        rows[r][i] = v;
        return 1;
    }

    public int at(int r, int i) {
        if (out(r, 6)) return BAD;
        if (rows[r] == null) return find(1);
        if (out(i, rows[r].length)) return find(2);
        return ask(rows[r][i], 1);
    }

    public int tear(int r) {
        if (out(r, 6)) return BAD;
        if (rows[r] == null) return find(1);
        rows[r] = null;
        return 1;
    }

    public int copy(int r, int i, int to, int j, int n) {
        if (out(r, 6) || out(to, 6)) return BAD;
        if (n < 0) return find(5);
        if (rows[r] == null || rows[to] == null) return find(1);
        if (i < 0 || j < 0 || (long) i + n > rows[r].length || (long) j + n > rows[to].length) return find(2);
        int[] taken = Arrays.copyOfRange(rows[r], i, i + n);
        for (int k = 0; k < n; k++) {
            rows[to][j + k] = taken[k];
        }
        return 1;
    }

    public int mean(int r) {
        if (out(r, 6)) return BAD;
        if (rows[r] == null) return find(1);
        if (rows[r].length == 0) return find(4);
        BigInteger sum = BigInteger.ZERO;
        for (int v : rows[r]) {
            sum = sum.add(BigInteger.valueOf(v));
        }
        return ask(sum.divide(BigInteger.valueOf(rows[r].length)).intValueExact(), 1);
    }

    public int text(int t, int n) {
        if (out(t, 4) || n > 60) return BAD;
        if (n < 0) return find(5);
        texts[t] = new byte[n];
        Arrays.fill(texts[t], (byte) ' ');
        return n;
    }

    public int put(int t, int i, int v) {
        if (out(t, 4)) return BAD;
        if (texts[t] == null) return find(1);
        if (out(i, texts[t].length)) return find(2);
        int was = texts[t][i];
        texts[t][i] = (byte) v;
        return was + 1000;
    }

    /** Reads sign by sign, by the state it is in; what it is in the midst of is the last key. */
    private int parse(int t, Board into) {
        int state = 0;
        Key k = null;
        for (int p = 0; p < texts[t].length; p++) {
            int sign = texts[t][p];
            int figure = sign - '0';
            switch (state) {
                case 0:
                    if (sign == ' ') break;
                    int kind = sign < 0 ? -1 : "kvsutw".indexOf(sign);
                    if (kind < 0 || into.keys.size() == 7) return p;
                    k = make(kind);
                    state = 1;
                    break;
                case 1:
                    if (out(figure, 4)) return p;
                    k.line = figure;
                    state = 2;
                    break;
                case 2:
                    if (out(figure, 6)) return p;
                    k.column = figure;
                    for (Key other : into.keys) {
                        if (other.line == k.line && other.column == k.column) return p;
                    }
                    state = 3;
                    break;
                default:
                    if (out(figure, 10)) return p;
                    k.delay = figure;
                    into.keys.add(k);
                    state = 0;
                    break;
            }
        }
        return state != 0 || into.keys.size() < 2 ? texts[t].length : NONE;
    }

    public int fault(int t) {
        if (out(t, 4)) return BAD;
        if (texts[t] == null) return find(1);
        return parse(t, new Board());
    }

    public int board(int t) {
        if (out(t, 4)) return BAD;
        if (texts[t] == null) return find(1);
        Board b = new Board();
        if (parse(t, b) != NONE) return STATE;
        story = new ArrayList<>(List.of(b));
        for (int k = 0; k < 3; k++) {
            kept.set(k, null);
        }
        return b.keys.size();
    }

    private int fact(int i, int what) {
        Key k = now().keys.get(i);
        switch (what) {
            case 0: return k.kind();
            case 1: return k.line;
            case 2: return k.column;
            case 3: return k.delay;
            case 4: return k.pressed ? 1 : 0;
            case 5: return k.held;
            case 6: return k.conducts(now().scan) ? 1 : 0;
            default: return now().told() >> i & 1;
        }
    }

    public int key(int i, int what) {
        if (out(i, size()) || out(what, 8)) return BAD;
        return ask(fact(i, what), 1);
    }

    public int mark(int i, int kind) {
        if (out(i, size()) || kind < 1 || kind > 5) return BAD;
        Key k = now().keys.get(i);
        if (!is(k, kind)) return find(3);
        int told = Integer.bitCount(now().told());
        int plain = Integer.bitCount(now().with(i, 0).told());
        if (kind == 1) return plain - told + 10;
        if (kind == 3) return told - plain + 10;
        if (kind == 4) return k.delay > k.held ? k.delay - k.held : 0;
        int would = 0;
        int missing = 0;
        for (int s = now().scan; s < now().scan + 8; s++) {
            Key pressed = as(k, k.kind());
            pressed.pressed = true;
            Key shy = as(pressed, 2);
            would += pressed.conducts(s) ? 1 : 0;
            missing += shy.conducts(s) && !pressed.conducts(s) ? 1 : 0;
        }
        return kind == 2 ? would : missing;
    }

    public int reads(int l) {
        if (out(l, 4)) return BAD;
        int bits = 0;
        for (int wire : now().reads(l)) {
            bits |= wire >= 100 ? 1 << wire - 100 : 0;
        }
        return bits;
    }

    private Board next() {
        Board b = now().copy();
        story.add(b);
        return b;
    }

    private boolean full(int n) {
        return story.size() - 1 + n > 40;
    }

    public int press(int i) {
        if (out(i, size())) return BAD;
        if (full(1)) return FULL;
        next().press(i);
        return Integer.bitCount(now().pressed());
    }

    public int scan() {
        if (size() == 0) return STATE;
        if (full(1)) return FULL;
        int told = now().told();
        next().pass();
        return Integer.bitCount(told);
    }

    public int cut(int l) {
        if (out(l, 4)) return BAD;
        if (size() == 0) return STATE;
        if (full(1)) return FULL;
        next().cut(l);
        return now().cut.size();
    }

    public int undo(int n) {
        if (n < 0 || n > story.size() - 1) return BAD;
        int many = story.size() - 1 - n;
        story = new ArrayList<>(story.subList(0, n + 1));
        return many;
    }

    public int keep(int k) {
        if (out(k, 3)) return BAD;
        if (size() == 0) return STATE;
        kept.set(k, new ArrayList<>(story));
        return story.size() - 1;
    }

    public int on(int k) {
        if (out(k, 3)) return BAD;
        if (kept.get(k) == null) return find(1);
        story = new ArrayList<>(kept.get(k));
        return story.size() - 1;
    }

    public int told() {
        return ask(Integer.bitCount(now().ghosts()), now().told());
    }

    public int ghosts() {
        return ask(now().pressed() & ~now().told(), now().ghosts());
    }

    public int later(int n) {
        if (out(n, 21)) return BAD;
        if (size() == 0) return STATE;
        Set<Integer> seen = new HashSet<>();
        Board b = now().copy();
        seen.add(b.told());
        for (int s = 0; s < n; s++) {
            b.pass();
            seen.add(b.told());
        }
        return ask(seen.size(), b.told());
    }

    public int would(int set) {
        if (out(set, now().sets())) return BAD;
        if (size() == 0) return STATE;
        return now().pressing(set).told();
    }

    public int haunts(int i) {
        if (out(i, size())) return BAD;
        for (int many = 0; many < size(); many++) {
            for (int s = 0; s < now().sets(); s++) {
                if (Integer.bitCount(s) == many && (now().pressing(s).ghosts() >> i & 1) == 1) {
                    return ask(many, s);
                }
            }
        }
        return NONE;
    }

    public int right() {
        if (size() == 0) return STATE;
        asked = -1;
        for (int n = 0; n <= size(); n++) {
            boolean all = true;
            for (int s = 0; s < now().sets(); s++) {
                all &= Integer.bitCount(s) > n || now().pressing(s).told() == s;
            }
            asked = all ? n : asked;
        }
        return now().right();
    }

    public int alike() {
        if (size() == 0) return STATE;
        List<Integer> like = new ArrayList<>();
        for (int s = 0; s < now().sets(); s++) {
            if (now().pressing(s).told() == now().told()) {
                like.add(s);
            }
        }
        return ask(like.get(0), like.size());
    }

    public int best() {
        if (size() == 0) return STATE;
        int[] rights = new int[size()];
        int top = 0;
        for (int i = 0; i < size(); i++) {
            rights[i] = now().with(i, 1).right();
            top = Math.max(top, rights[i]);
        }
        if (top <= now().right()) return NONE;
        for (int i = 0; i < size(); i++) {
            if (rights[i] == top) return ask(top, i);
        }
        throw new IllegalStateException();
    }

    private int refuse(int i, int r) {
        if (out(i, size()) || out(r, 6)) return BAD;
        if (rows[r] == null) return find(1);
        if ((rows[r].length & 1) == 1) return find(5);
        for (int v : rows[r]) {
            if (out(v, now().sets())) return find(3);
        }
        return 0;
    }

    private boolean fits(Board b, int r) {
        boolean all = true;
        for (int p = 0; p < rows[r].length; p += 2) {
            all &= b.pressing(rows[r][p]).told() == rows[r][p + 1];
        }
        return all;
    }

    private List<Integer> fitting(int i, int r) {
        List<Integer> fit = new ArrayList<>();
        for (int kind = 0; kind < 6; kind++) {
            if (fits(now().with(i, kind), r)) {
                fit.add(kind);
            }
        }
        return fit;
    }

    public int kinds(int i, int r) {
        int no = refuse(i, r);
        if (no != 0) return no;
        int bits = 0;
        for (int kind : fitting(i, r)) {
            bits |= 1 << kind;
        }
        return bits;
    }

    public int places(int i, int r) {
        int no = refuse(i, r);
        if (no != 0) return no;
        List<Integer> fit = new ArrayList<>();
        for (int place = 0; place < 36; place++) {
            int line = place / 10;
            int column = place % 10;
            boolean free = column < 6;
            for (int o = 0; o < size(); o++) {
                Key other = now().keys.get(o);
                free &= o == i || other.line != line || other.column != column;
            }
            Board b = now().copy();
            b.keys.get(i).line = line;
            b.keys.get(i).column = column;
            if (free && fits(b, r)) {
                fit.add(place);
            }
        }
        return fit.isEmpty() ? NONE : ask(fit.get(0), fit.size());
    }

    public int test(int i, int r) {
        int no = refuse(i, r);
        if (no != 0) return no;
        List<Integer> fit = fitting(i, r);
        if (fit.isEmpty()) return NONE;
        int bestSet = -1;
        int least = 99;
        for (int s = now().sets() - 1; s >= 0; s--) {
            Map<Integer, Integer> parts = new HashMap<>();
            for (int kind : fit) {
                parts.merge(now().with(i, kind).pressing(s).told(), 1, Integer::sum);
            }
            int greatest = parts.values().stream().max(Integer::compare).get();
            if (greatest <= least) {
                least = greatest;
                bestSet = s;
            }
        }
        return ask(least, bestSet);
    }

    private int play(Board b, int turn, int n) {
        if (turn == n) return Integer.bitCount(b.ghosts());
        int value = play(b, turn + 1, n);
        for (int i = 0; i < size(); i++) {
            if (!b.keys.get(i).pressed) {
                Board c = b.copy();
                c.press(i);
                int other = play(c, turn + 1, n);
                value = turn % 2 == 0 ? Math.max(value, other) : Math.min(value, other);
            }
        }
        return value;
    }

    public int duel(int n) {
        if (out(n, 5)) return BAD;
        if (size() == 0) return STATE;
        return play(now().copy(), 0, n);
    }

    private int tell(int p, boolean odds) {
        if (out(p, 13)) return BAD;
        if (size() == 0) return STATE;
        BigInteger sum = BigInteger.ZERO;
        for (int s = 0; s < now().sets(); s++) {
            BigInteger weight = BigInteger.ONE;
            for (int i = 0; i < size(); i++) {
                weight = weight.multiply(BigInteger.valueOf((s >> i & 1) == 1 ? p : 12 - p));
            }
            Board b = now().pressing(s);
            int value = odds ? (b.told() == s ? 1 : 0) : Integer.bitCount(b.ghosts());
            sum = sum.add(weight.multiply(BigInteger.valueOf(value)));
        }
        BigInteger all = BigInteger.valueOf(12).pow(size());
        BigInteger common = sum.gcd(all);
        upper = sum.divide(common).longValueExact();
        lower = all.divide(common).longValueExact();
        return 1;
    }

    public int odds(int p) {
        return tell(p, true);
    }

    public int mid(int p) {
        return tell(p, false);
    }

    public int lots(int n, int seed) {
        if (n < 1 || n > 20 || seed < 1 || seed > 2147483646) return BAD;
        if (size() == 0) return STATE;
        if (full(n)) return FULL;
        BigInteger number = BigInteger.valueOf(seed);
        for (int d = 0; d < n; d++) {
            number = number.multiply(BigInteger.valueOf(48271)).mod(BigInteger.valueOf(2147483647));
            int v = number.intValueExact();
            Board b = next();
            switch (v % 8) {
                case 0: b.cut(v / 8 % 4); break;
                case 1: case 2: case 3: b.pass(); break;
                default: b.press(v / 8 % size()); break;
            }
        }
        return Integer.bitCount(now().told());
    }

    public int asked() {
        return asked;
    }

    public long upper() {
        return upper;
    }

    public long lower() {
        return lower;
    }

    public int count(int what) {
        int many = 0;
        switch (what) {
            case 0: return size();
            case 1: return now().scan;
            case 2: return story.size() - 1;
            case 3: return now().pressed();
            case 4:
                for (int l : now().cut) many |= 1 << l;
                return many;
            case 5: return Integer.bitCount(now().told());
            case 6:
                for (int[] r : rows) many += r == null ? 0 : 1;
                return many;
            case 7:
                for (byte[] t : texts) many += t == null ? 0 : 1;
                return many;
            case 8:
                for (List<Board> b : kept) many += b == null ? 0 : 1;
                return many;
            case 9: case 10:
                for (Key k : now().keys) many += is(k, what - 8) ? 1 : 0;
                return many;
            default: return BAD;
        }
    }

    public int finding() {
        return latest;
    }

    public int findings(int f) {
        return f < 1 || f > 5 ? BAD : found[f];
    }

    public long digest() {
        List<Integer> values = new ArrayList<>();
        for (int what = 0; what < 11; what++) values.add(count(what));
        for (int i = 0; i < size(); i++) {
            for (int what = 0; what < 8; what++) values.add(fact(i, what));
        }
        for (List<Board> b : kept) values.add(b == null ? -1 : b.size() - 1);
        for (int[] r : rows) {
            values.add(r == null ? -1 : r.length);
            if (r != null) for (int v : r) values.add(v);
        }
        for (byte[] t : texts) {
            values.add(t == null ? -1 : t.length);
            if (t != null) for (byte v : t) values.add((int) v);
        }
        long h = 17;
        for (int v : values) h = 31 * h + v;
        return h;
    }
}
