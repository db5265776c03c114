import java.math.BigInteger;
import java.util.ArrayList;
import java.util.Arrays;
import java.util.Comparator;
import java.util.List;
import java.util.Set;
import java.util.TreeSet;

/**
 * The document once more, by its words and as slowly as it likes: sets are sets, what stands is asked by
 * recursion, and the least of anything is found by looking at all. Public methods bear the names of the face.
 */
public final class Model {
    private static final int BAD = -1, FULL = -2, FINDING = -3, STATE = -4, SPENT = -6, NONE = -9;

    private static final class Block {
        int kind;
        int course;
        int half;
        int[] marks;
        boolean in = true;
        boolean wedge;
        boolean vine;
        int hangs = NONE;

        Block copied() {
            Block c = new Block();
            c.kind = kind;
            c.course = course;
            c.half = half;
            c.marks = marks.clone();
            c.in = in;
            c.wedge = wedge;
            c.vine = vine;
            c.hangs = hangs;
            return c;
        }

        Set<Integer> halves() {
            Set<Integer> s = new TreeSet<>(List.of(half, half + 1));
            if (kind >= 4) {
                s.add(half + 2);
            }
            return s;
        }

        boolean shares(Block o) {
            return !java.util.Collections.disjoint(halves(), o.halves());
        }

        Set<Integer> owners() {
            Set<Integer> s = new TreeSet<>();
            for (int i = 0; i < (kind == 2 ? 1 : marks.length); i++) {
                s.add(marks[i]);
            }
            return s;
        }
    }

    private static final class State {
        int width;
        List<Block> blocks = new ArrayList<>();
        boolean[] said = new boolean[6];
        List<Integer> drawn = new ArrayList<>();
        int year;

        State copied() {
            State c = new State();
            c.width = width;
            for (Block b : blocks) {
                c.blocks.add(b.copied());
            }
            c.said = said.clone();
            c.drawn = new ArrayList<>(drawn);
            c.year = year;
            return c;
        }

        boolean bears(Block x, int half) {
            if (x.course == 0) {
                return true;
            }
            for (Block y : blocks) {
                if (y.in && y.course == x.course - 1 && y.halves().contains(half) && stays(y)) {
                    return true;
                }
            }
            return false;
        }

        Block beside(Block x, int half) {
            for (Block y : blocks) {
                if (y.in && y.course == x.course && y.halves().contains(half)) {
                    return y;
                }
            }
            return null;
        }

        boolean keeps(Block y) {
            return y != null && y.kind != 5 && stays(y);
        }

        /** Whether a block would stand, were it in. */
        boolean stays(Block x) {
            if (x.wedge || x.vine) {
                return true;
            }
            int n = 0;
            for (int h : x.halves()) {
                n += bears(x, h) ? 1 : 0;
            }
            switch (x.kind) {
                case 1:
                    return n == 2;
                case 4:
                    return bears(x, x.half) && bears(x, x.half + 2);
                case 5:
                    return bears(x, x.half) && bears(x, x.half + 2)
                        || keeps(beside(x, x.half - 1)) && keeps(beside(x, x.half + 3));
                default:
                    return n >= 1;
            }
        }

        Set<Integer> standing() {
            Set<Integer> s = new TreeSet<>();
            for (int b = 0; b < blocks.size(); b++) {
                if (blocks.get(b).in && stays(blocks.get(b))) {
                    s.add(b);
                }
            }
            return s;
        }

        Set<Integer> inside() {
            Set<Integer> s = new TreeSet<>();
            for (int b = 0; b < blocks.size(); b++) {
                if (blocks.get(b).in) {
                    s.add(b);
                }
            }
            return s;
        }

        Set<Integer> falling(Set<Integer> set) {
            State without = copied();
            for (int b : set) {
                without.blocks.get(b).in = false;
            }
            Set<Integer> s = standing();
            s.removeAll(set);
            s.removeAll(without.standing());
            return s;
        }

        boolean taken(Block x) {
            for (Block y : blocks) {
                if (y != x && y.in && y.course == x.course && y.shares(x)) {
                    return true;
                }
            }
            return false;
        }
    }

    private final List<Integer>[] rows;
    private final byte[][] texts = new byte[4][];
    private State w = new State();
    private boolean built;
    private final State[] kept = new State[3];
    private int asked;
    private BigInteger upper = BigInteger.ZERO;
    private BigInteger lower = BigInteger.ONE;
    private int finding;
    private final int[] findings = new int[6];
    private State parsed;

    @SuppressWarnings({"unchecked", "rawtypes"})
    public Model() {
        rows = new List[6];
    }

    private int found(int f) {
        finding = f;
        findings[f]++;
        return FINDING;
    }

    private static int bits(Set<Integer> s) {
        int n = 0;
        for (int i : s) {
            n += 1 << i;
        }
        return n;
    }

    private static Set<Integer> members(long bits) {
        Set<Integer> s = new TreeSet<>();
        for (int i = 0; i < 32; i++) {
            if ((bits >> i & 1) == 1) {
                s.add(i);
            }
        }
        return s;
    }

    private boolean none(int b) {
        return b < 0 || b >= w.blocks.size();
    }

    private boolean noSet(int set) {
        return set < 0 || set >= 1L << w.blocks.size();
    }

    private static boolean nobody(int p) {
        return p < 0 || p > 5;
    }

    public int row(int r, int n) {
        if (r < 0 || r > 5 || n > 40) {
            return BAD;
        }
        if (n < 0) {
            return found(5);
        }
        rows[r] = new ArrayList<>(java.util.Collections.nCopies(n, 0));
        return n;
    }

    public int lay(int r, int i, int v) {
        int answer = at(r, i);
        if (answer == 1) {
            rows[r].set(i, v);
        }
        return answer;
    }

    public int at(int r, int i) {
        if (r < 0 || r > 5) {
            return BAD;
        }
        if (rows[r] == null) {
            return found(1);
        }
        if (i < 0 || i >= rows[r].size()) {
            return found(2);
        }
        asked = rows[r].get(i);
        return 1;
    }

    public int tear(int r) {
        if (r < 0 || r > 5) {
            return BAD;
        }
        if (rows[r] == null) {
            return found(1);
        }
        rows[r] = null;
        return 1;
    }

    public int copy(int r, int i, int to, int j, int n) {
        if (r < 0 || r > 5 || to < 0 || to > 5) {
            return BAD;
        }
        if (n < 0) {
            return found(5);
        }
        if (rows[r] == null || rows[to] == null) {
            return found(1);
        }
        if (i < 0 || j < 0 || (long) i + n > rows[r].size() || (long) j + n > rows[to].size()) {
            return found(2);
        }
        List<Integer> taken = new ArrayList<>(rows[r].subList(i, i + n));
        for (int k = 0; k < n; k++) {
            rows[to].set(j + k, taken.get(k));
        }
        return 1;
    }

    public int mean(int r) {
        if (r < 0 || r > 5) {
            return BAD;
        }
        if (rows[r] == null) {
            return found(1);
        }
        if (rows[r].isEmpty()) {
            return found(4);
        }
        BigInteger sum = BigInteger.ZERO;
        for (int v : rows[r]) {
            sum = sum.add(BigInteger.valueOf(v));
        }
        asked = sum.divide(BigInteger.valueOf(rows[r].size())).intValueExact();
        return 1;
    }

    public int text(int t, int n) {
        if (t < 0 || t > 3 || n > 100) {
            return BAD;
        }
        if (n < 0) {
            return found(5);
        }
        texts[t] = new byte[n];
        Arrays.fill(texts[t], (byte) 32);
        return n;
    }

    public int put(int t, int i, int v) {
        if (t < 0 || t > 3) {
            return BAD;
        }
        if (texts[t] == null) {
            return found(1);
        }
        if (i < 0 || i >= texts[t].length) {
            return found(2);
        }
        int was = texts[t][i];
        texts[t][i] = (byte) v;
        return was + 1000;
    }

    private static boolean has(int[] ints, int v) {
        return Arrays.stream(ints).anyMatch(i -> i == v);
    }

    /** One sign after the other, by what is due next: W, n, then an item's letter, C, H, and marks 1, 2, 3. */
    private int parse(byte[] text) {
        parsed = new State();
        char due = 'W';
        Block x = null;
        for (int p = 0; p < text.length; p++) {
            int v = text[p];
            if (v == ' ' && (due == 'W' || due == 'L')) {
                continue;
            }
            switch (due) {
                case 'W':
                    if (v != 'w') {
                        return p;
                    }
                    due = 'n';
                    break;
                case 'n':
                    if (v < '2' || v > '9') {
                        return p;
                    }
                    parsed.width = v - '0';
                    due = 'L';
                    break;
                case 'L':
                    if (v < 0 || "bcftra".indexOf(v) < 0 || parsed.blocks.size() == 14) {
                        return p;
                    }
                    x = new Block();
                    x.kind = "bcftra".indexOf(v);
                    x.marks = new int[0];
                    due = 'C';
                    break;
                case 'C':
                    if (v < '0' || v > '5') {
                        return p;
                    }
                    x.course = v - '0';
                    due = 'H';
                    break;
                case 'H':
                    if (v < '0' || v > '9') {
                        return p;
                    }
                    x.half = v - '0';
                    if (java.util.Collections.max(x.halves()) >= parsed.width || parsed.taken(x)) {
                        return p;
                    }
                    due = 'M';
                    break;
                default:
                    if (v < 'A' || v > 'F' || has(x.marks, v - 'A')) {
                        return p;
                    }
                    x.marks = Arrays.copyOf(x.marks, x.marks.length + 1);
                    x.marks[x.marks.length - 1] = v - 'A';
                    if (x.marks.length == (x.kind == 3 ? 3 : 2)) {
                        parsed.blocks.add(x);
                        due = 'L';
                    }
            }
        }
        return due == 'L' ? NONE : text.length;
    }

    public int fault(int t) {
        if (t < 0 || t > 3) {
            return BAD;
        }
        return texts[t] == null ? found(1) : parse(texts[t]);
    }

    public int wall(int t) {
        int f = fault(t);
        if (f == BAD || f == FINDING) {
            return f;
        }
        if (f != NONE) {
            return STATE;
        }
        w = parsed;
        built = true;
        Arrays.fill(kept, null);
        return w.blocks.size();
    }

    private int tells(int b, int what) {
        Block x = w.blocks.get(b);
        int[] all = {x.kind, x.course, x.half, x.marks[0], x.marks[1], x.marks.length > 2 ? x.marks[2] : NONE,
            x.in ? 1 : 0, (x.wedge ? 1 : 0) + (x.vine ? 2 : 0), x.hangs};
        return all[what];
    }

    public int brick(int b, int what) {
        if (none(b) || what < 0 || what > 8) {
            return BAD;
        }
        asked = tells(b, what);
        return 1;
    }

    public int mark(int b, int kind) {
        if (none(b) || kind < 1 || kind > 5) {
            return BAD;
        }
        Block x = w.blocks.get(b);
        if (!x.in) {
            return found(1);
        }
        if (kind != x.kind && !(kind == 4 && x.kind == 5)) {
            return found(3);
        }
        if (kind == 1) {
            return (w.bears(x, x.half) ? 1 : 0) + (w.bears(x, x.half + 1) ? 1 : 0);
        }
        if (kind == 2) {
            return x.marks[1];
        }
        if (kind == 3) {
            return Arrays.stream(x.marks).max().getAsInt();
        }
        if (kind == 4) {
            return w.bears(x, x.half + 1) ? 1 : 0;
        }
        Block left = w.beside(x, x.half - 1);
        Block right = w.beside(x, x.half + 3);
        return (left != null && w.stays(left) ? 1 : 0) + (right != null && w.stays(right) ? 1 : 0);
    }

    public int yes(int p, int is) {
        if (nobody(p) || is != 0 && is != 1) {
            return BAD;
        }
        boolean was = w.said[p];
        w.said[p] = is == 1;
        return was ? 1 : 0;
    }

    public int heir(int p, int q) {
        if (nobody(p) || nobody(q) || p == q) {
            return BAD;
        }
        int n = 0;
        for (Block x : w.blocks) {
            for (int i = 0; i < x.marks.length; i++) {
                if (x.marks[i] == p) {
                    x.marks[i] = q;
                    n++;
                }
            }
        }
        return n;
    }

    public int hang(int b, int on) {
        if (none(b) || none(on) && on != NONE || b == on) {
            return BAD;
        }
        int was = w.blocks.get(b).hangs;
        w.blocks.get(b).hangs = on;
        return was;
    }

    public int wedge(int b, int is) {
        if (none(b) || is != 0 && is != 1) {
            return BAD;
        }
        Block x = w.blocks.get(b);
        if (!x.in) {
            return found(1);
        }
        if (x.wedge == (is == 1)) {
            return STATE;
        }
        Set<Integer> before = w.standing();
        int there = count(3);
        x.wedge = is == 1;
        if (!w.standing().containsAll(before)) {
            x.wedge = true;
            return STATE;
        }
        if (is == 1 && there == 4) {
            x.wedge = false;
            return FULL;
        }
        return count(3);
    }

    public int vine(int b) {
        if (none(b)) {
            return BAD;
        }
        if (!w.blocks.get(b).in) {
            return found(1);
        }
        if (w.blocks.get(b).vine) {
            return STATE;
        }
        w.blocks.get(b).vine = true;
        return count(4);
    }

    public int stands() {
        Set<Integer> s = w.standing();
        Set<Integer> not = w.inside();
        not.removeAll(s);
        asked = bits(not);
        return bits(s);
    }

    public int falls(int set) {
        if (noSet(set)) {
            return BAD;
        }
        if (!w.inside().containsAll(members(set))) {
            return found(1);
        }
        return bits(w.falling(members(set)));
    }

    private int out(int b) {
        if (none(b)) {
            return BAD;
        }
        return w.blocks.get(b).in ? 0 : found(1);
    }

    public int load(int b) {
        int no = out(b);
        return no != 0 ? no : w.falling(Set.of(b)).size();
    }

    public int great() {
        int best = NONE;
        for (int b : w.inside()) {
            if (best == NONE || w.falling(Set.of(b)).size() > w.falling(Set.of(best)).size()) {
                best = b;
            }
        }
        if (best != NONE) {
            asked = w.falling(Set.of(best)).size();
        }
        return best;
    }

    private Set<Integer> neededFor(int b) {
        Block x = w.blocks.get(b);
        boolean released = x.hangs != NONE && !w.blocks.get(x.hangs).in;
        return released ? new TreeSet<>() : x.owners();
    }

    private Set<Integer> silent(Set<Integer> people) {
        Set<Integer> s = new TreeSet<>();
        for (int p : people) {
            if (!w.said[p]) {
                s.add(p);
            }
        }
        return s;
    }

    public int asks(int b) {
        int no = out(b);
        if (no != 0) {
            return no;
        }
        asked = bits(silent(neededFor(b)));
        return bits(neededFor(b));
    }

    private boolean drawable(int b, boolean allSaid) {
        return !w.blocks.get(b).vine && w.falling(Set.of(b)).isEmpty() && (allSaid || silent(neededFor(b)).isEmpty());
    }

    public int draw(int b) {
        int no = out(b);
        if (no != 0) {
            return no;
        }
        if (!drawable(b, false)) {
            return STATE;
        }
        w.blocks.get(b).in = false;
        w.blocks.get(b).wedge = false;
        w.drawn.add(b);
        return 1;
    }

    public int free() {
        Set<Integer> can = new TreeSet<>();
        Set<Integer> could = new TreeSet<>();
        for (int b : w.inside()) {
            if (drawable(b, false)) {
                can.add(b);
            }
            if (drawable(b, true)) {
                could.add(b);
            }
        }
        asked = bits(could);
        return bits(can);
    }

    public int undo() {
        if (w.drawn.isEmpty()) {
            return STATE;
        }
        int b = w.drawn.get(w.drawn.size() - 1);
        Block x = w.blocks.get(b);
        if (w.taken(x) || !w.stays(x)) {
            return STATE;
        }
        x.in = true;
        w.drawn.remove(w.drawn.size() - 1);
        return b;
    }

    public int ahead(int b, int r) {
        if (none(b) || r < 0 || r > 5) {
            return BAD;
        }
        if (!w.blocks.get(b).in) {
            return found(1);
        }
        if (w.blocks.get(b).vine) {
            return STATE;
        }
        List<Integer> list = new ArrayList<>(w.falling(Set.of(b)));
        list.sort(Comparator.comparing((Integer i) -> -w.blocks.get(i).course)
            .thenComparing(i -> w.blocks.get(i).kind == 5 ? 0 : 1).thenComparing(i -> i));
        Set<Integer> people = neededFor(b);
        for (int f : list) {
            people.addAll(neededFor(f));
        }
        rows[r] = list;
        asked = bits(people);
        return list.size();
    }

    public int rests(int b) {
        int no = out(b);
        if (no != 0) {
            return no;
        }
        Block x = w.blocks.get(b);
        Set<Integer> under = new TreeSet<>();
        Set<Integer> upon = new TreeSet<>();
        for (int i : w.inside()) {
            Block y = w.blocks.get(i);
            if (y.shares(x) && y.course + 1 == x.course && w.stays(y)) {
                under.add(i);
            }
            if (y.shares(x) && y.course - 1 == x.course) {
                upon.add(i);
            }
        }
        asked = bits(upon);
        return bits(under);
    }

    public int props(int b) {
        int no = out(b);
        if (no != 0) {
            return no;
        }
        int falls = bits(w.falling(Set.of(b)));
        int best = -1;
        for (int set = 0; set <= falls; set++) {
            boolean worth = (set & ~falls) == 0 && (best < 0 || Integer.bitCount(set) < Integer.bitCount(best));
            if (worth) {
                State trial = w.copied();
                for (int i : members(set)) {
                    trial.blocks.get(i).wedge = true;
                }
                best = trial.falling(Set.of(b)).isEmpty() ? set : best;
            }
        }
        asked = best;
        return Integer.bitCount(best);
    }

    private Block fresh(int course, int half, int p, int q) {
        Block x = new Block();
        x.course = course;
        x.half = half;
        x.marks = new int[] {p, q};
        return x;
    }

    private boolean settles(State s, Block x) {
        return s.blocks.size() < 14 && x.half + 1 < s.width && !s.taken(x) && s.stays(x);
    }

    public int set(int course, int half, int p, int q) {
        if (course < 0 || course > 5 || half < 0 || half > 8 || nobody(p) || nobody(q) || p == q) {
            return BAD;
        }
        if (w.blocks.size() == 14) {
            return FULL;
        }
        Block x = fresh(course, half, p, q);
        if (!built || !settles(w, x)) {
            return STATE;
        }
        w.blocks.add(x);
        return w.blocks.size() - 1;
    }

    public int soon() {
        if (!built) {
            return STATE;
        }
        List<Integer> places = new ArrayList<>();
        for (int place = 0; place < 60; place++) {
            State trial = w.copied();
            Block x = fresh(place / 10, place % 10, 0, 1);
            if (settles(trial, x)) {
                trial.blocks.add(x);
                if (trial.falling(Set.of(trial.blocks.size() - 1)).isEmpty()) {
                    places.add(place);
                }
            }
        }
        if (places.isEmpty()) {
            return NONE;
        }
        asked = places.size();
        return places.get(0);
    }

    private int[][] debts() {
        int[][] d = new int[6][6];
        for (Block x : w.blocks) {
            if (x.in && x.kind != 2) {
                for (int i = 1; i < x.marks.length; i++) {
                    d[x.marks[0]][x.marks[i]]++;
                }
            }
        }
        return d;
    }

    public int owes(int p, int q) {
        if (nobody(p) || nobody(q) || p == q) {
            return BAD;
        }
        return debts()[p][q] - debts()[q][p];
    }

    public int rich() {
        int[] credit = new int[6];
        for (int p = 0; p < 6; p++) {
            for (int q = 0; q < 6; q++) {
                credit[q] += debts()[p][q];
                credit[p] -= debts()[p][q];
            }
        }
        asked = Arrays.stream(credit).max().getAsInt();
        int first = 0;
        while (credit[first] != asked) {
            first++;
        }
        return first;
    }

    public int alone(int set) {
        if (noSet(set) || set == 0) {
            return BAD;
        }
        Set<Integer> people = new TreeSet<>(List.of(0, 1, 2, 3, 4, 5));
        asked = 0;
        for (int b : members(set)) {
            people.retainAll(w.blocks.get(b).owners());
            asked += w.blocks.get(b).owners().size() == 1 ? 1 : 0;
        }
        return bits(people);
    }

    public int few(int set) {
        if (noSet(set) || set == 0) {
            return BAD;
        }
        for (int n = 1; n <= 6; n++) {
            for (int people = 1; people < 64; people++) {
                boolean all = Integer.bitCount(people) == n;
                for (int b : members(set)) {
                    all &= !java.util.Collections.disjoint(members(people), w.blocks.get(b).owners());
                }
                if (all) {
                    asked = people;
                    return n;
                }
            }
        }
        throw new IllegalStateException("a block without marks");
    }

    public int moved(int k) {
        if (k < 0 || k > 2) {
            return BAD;
        }
        if (kept[k] == null) {
            return found(1);
        }
        Set<Integer> gone = kept[k].inside();
        gone.removeAll(w.inside());
        Set<Integer> come = w.inside();
        come.removeAll(kept[k].inside());
        asked = bits(come);
        return bits(gone);
    }

    public int frost(int seed, int c) {
        if (seed < 1 || seed == Integer.MAX_VALUE || c < 0 || c > 12) {
            return BAD;
        }
        Set<Integer> before = w.standing();
        Set<Integer> cracked = new TreeSet<>();
        BigInteger lot = BigInteger.valueOf(seed);
        for (int b : w.inside()) {
            lot = lot.multiply(BigInteger.valueOf(48271)).mod(BigInteger.valueOf(2147483647));
            if (lot.intValueExact() % 12 < c && w.blocks.get(b).kind == 0) {
                cracked.add(b);
            }
        }
        for (int b : cracked) {
            w.blocks.get(b).kind = 1;
        }
        before.removeAll(w.standing());
        for (int b : before) {
            w.blocks.get(b).in = false;
            w.blocks.get(b).wedge = false;
        }
        asked = bits(before);
        return bits(cracked);
    }

    public int odds(int b, int c) {
        if (none(b) || c < 0 || c > 12) {
            return BAD;
        }
        if (!w.blocks.get(b).in) {
            return found(1);
        }
        List<Integer> beneath = new ArrayList<>();
        for (int i : w.inside()) {
            if (w.blocks.get(i).course < w.blocks.get(b).course) {
                beneath.add(i);
            }
        }
        if (beneath.size() > 9) {
            return SPENT;
        }
        BigInteger sum = chance(w.copied(), b, c, beneath);
        BigInteger all = BigInteger.valueOf(12).pow(beneath.size());
        upper = sum.divide(sum.gcd(all));
        lower = all.divide(sum.gcd(all));
        return 1;
    }

    private BigInteger chance(State s, int b, int c, List<Integer> open) {
        if (open.isEmpty()) {
            return s.stays(s.blocks.get(b)) ? BigInteger.ONE : BigInteger.ZERO;
        }
        List<Integer> rest = open.subList(1, open.size());
        Block x = s.blocks.get(open.get(0));
        BigInteger there = chance(s, b, c, rest).multiply(BigInteger.valueOf(12 - c));
        x.in = false;
        BigInteger missing = chance(s, b, c, rest).multiply(BigInteger.valueOf(c));
        x.in = true;
        return there.add(missing);
    }

    private boolean touch(Block x, Block y) {
        if (x.course == y.course) {
            return x.halves().contains(java.util.Collections.max(y.halves()) + 1) || x.halves().contains(y.half - 1);
        }
        return Math.abs(x.course - y.course) == 1 && x.shares(y);
    }

    public int go(int n) {
        if (n < 0 || n > 20) {
            return BAD;
        }
        if (w.year + n > 1000) {
            return SPENT;
        }
        for (int i = 0; i < n; i++) {
            w.year++;
            Block next = null;
            for (Block x : w.blocks) {
                for (Block y : w.blocks) {
                    if (next == null && x.in && !x.vine && y.vine && touch(x, y)) {
                        next = x;
                    }
                }
            }
            if (next != null) {
                next.vine = true;
            }
        }
        return count(4);
    }

    public int keep(int k) {
        if (k < 0 || k > 2) {
            return BAD;
        }
        if (!built) {
            return STATE;
        }
        kept[k] = w.copied();
        return w.inside().size();
    }

    public int on(int k) {
        if (k < 0 || k > 2) {
            return BAD;
        }
        if (kept[k] == null) {
            return found(1);
        }
        w = kept[k].copied();
        return w.inside().size();
    }

    public int asked() {
        return asked;
    }

    public long upper() {
        return upper.longValueExact();
    }

    public long lower() {
        return lower.longValueExact();
    }

    public int count(int what) {
        int n = 0;
        switch (what) {
            case 0:
                return w.blocks.size();
            case 1:
                return w.inside().size();
            case 2:
            case 3:
            case 4:
                for (Block x : w.blocks) {
                    n += (what == 2 ? x.kind >= 4 : what == 3 ? x.wedge : x.vine) ? 1 : 0;
                }
                return n;
            case 5:
                return w.year;
            case 6:
                for (List<Integer> r : rows) {
                    n += r == null ? 0 : 1;
                }
                return n;
            case 7:
                for (byte[] t : texts) {
                    n += t == null ? 0 : 1;
                }
                return n;
            default:
                return BAD;
        }
    }

    public int finding() {
        return finding;
    }

    public int findings(int f) {
        return f < 1 || f > 5 ? BAD : findings[f];
    }

    public long digest() {
        List<Integer> all = new ArrayList<>();
        for (int what = 0; what < 8; what++) {
            all.add(count(what));
        }
        all.add(w.width);
        Set<Integer> saying = new TreeSet<>(List.of(0, 1, 2, 3, 4, 5));
        saying.removeAll(silent(saying));
        all.add(bits(saying));
        for (int b = 0; b < w.blocks.size(); b++) {
            for (int what = 0; what < 9; what++) {
                all.add(tells(b, what));
            }
        }
        all.addAll(w.drawn);
        for (State k : kept) {
            all.add(k == null ? -1 : bits(k.inside()));
        }
        for (List<Integer> r : rows) {
            all.add(r == null ? -1 : r.size());
            all.addAll(r == null ? List.of() : r);
        }
        for (byte[] t : texts) {
            all.add(t == null ? -1 : t.length);
            for (int i = 0; t != null && i < t.length; i++) {
                all.add((int) t[i]);
            }
        }
        long h = 17;
        for (int v : all) {
            h = 31 * h + v;
        }
        return h;
    }
}
