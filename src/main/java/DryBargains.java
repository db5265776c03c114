/** Bargains in a dry wall; what each call promises stands in the document (DOC.md). */
public final class DryBargains {
    public static final int BAD = -1, FULL = -2, FINDING = -3, STATE = -4, SPENT = -6, NONE = -9;

    private static final int NOTHING = 1, BEYOND = 2, UNLIKE = 3, NOUGHT = 4, SIZE = 5;
    private static final int PLAIN = 0, CRACKED = 1, FALSE = 2, TRIPLE = 3, BRIDGE = 4, ARCH = 5;
    private static final int ROWS = 6, LONGEST_ROW = 40, TEXTS = 4, LONGEST_TEXT = 100;
    private static final int PEOPLE = 6, MOST_BRICKS = 14, COURSES = 6, HALVES = 9, PLACES = 3;
    private static final int MOST_WEDGES = 4, LAST_YEAR = 1000, MOST_YEARS_AT_ONCE = 20;
    private static final int TWELVE = 12, MOST_BENEATH = 9;
    // no byte is as great as END: it is the sign behind the last one
    private static final int BLANK = 32, BYTE_SHIFT = 1000, END = 1000;
    private static final int LOT_FACTOR = 48271, LOT_MODULUS = 2147483647;

    private final Rows rows;
    private final Texts texts;
    private final Reader reader;
    private final Wall now;
    private final Wall[] kept;
    private final int[] found;
    private int latestFinding;
    private int told;
    private long upperNumber;
    private long lowerNumber;

    public DryBargains() {
        rows = new Rows();
        texts = new Texts();
        reader = new Reader();
        now = new Wall();
        kept = new Wall[PLACES];
        for (int k = 0; k < PLACES; k++) {
            kept[k] = new Wall();
        }
        found = new int[SIZE + 1];
        lowerNumber = 1;
    }

    // ---- 1 rows, texts, walls

    public int row(int r, int n) {
        if (!isRow(r) || n > LONGEST_ROW) {
            return BAD;
        }
        if (n < 0) {
            return refuse(SIZE);
        }
        rows.begin(r, n);
        return n;
    }

    public int lay(int r, int i, int v) {
        if (!isRow(r)) {
            return BAD;
        }
        if (rows.sizes[r] < 0) {
            return refuse(NOTHING);
        }
        if (i < 0 || i >= rows.sizes[r]) {
            return refuse(BEYOND);
        }
        told = rows.ints[r][i];
        rows.ints[r][i] = v;
        return 1;
    }

    public int at(int r, int i) {
        if (!isRow(r)) {
            return BAD;
        }
        if (rows.sizes[r] < 0) {
            return refuse(NOTHING);
        }
        if (i < 0 || i >= rows.sizes[r]) {
            return refuse(BEYOND);
        }
        told = rows.ints[r][i];
        return 1;
    }

    public int tear(int r) {
        if (!isRow(r)) {
            return BAD;
        }
        if (rows.sizes[r] < 0) {
            return refuse(NOTHING);
        }
        rows.sizes[r] = -1;
        return 1;
    }

    public int copy(int r, int i, int to, int j, int n) {
        if (!isRow(r) || !isRow(to)) {
            return BAD;
        }
        if (n < 0) {
            return refuse(SIZE);
        }
        if (rows.sizes[r] < 0 || rows.sizes[to] < 0) {
            return refuse(NOTHING);
        }
        if (!rows.hasPlaces(r, i, n) || !rows.hasPlaces(to, j, n)) {
            return refuse(BEYOND);
        }
        System.arraycopy(rows.ints[r], i, rows.ints[to], j, n);
        return 1;
    }

    public int mean(int r) {
        if (!isRow(r)) {
            return BAD;
        }
        int n = rows.sizes[r];
        if (n < 0) {
            return refuse(NOTHING);
        }
        if (n == 0) {
            return refuse(NOUGHT);
        }
        told = (int) (rows.sum(r) / n);
        return 1;
    }

    public int text(int t, int n) {
        if (!isText(t) || n > LONGEST_TEXT) {
            return BAD;
        }
        if (n < 0) {
            return refuse(SIZE);
        }
        texts.begin(t, n);
        return n;
    }

    public int put(int t, int i, int v) {
        if (!isText(t)) {
            return BAD;
        }
        if (texts.sizes[t] < 0) {
            return refuse(NOTHING);
        }
        if (i < 0 || i >= texts.sizes[t]) {
            return refuse(BEYOND);
        }
        int was = texts.bytes[t][i];
        texts.bytes[t][i] = (byte) v;
        return was + BYTE_SHIFT;
    }

    public int fault(int t) {
        if (!isText(t)) {
            return BAD;
        }
        if (texts.sizes[t] < 0) {
            return refuse(NOTHING);
        }
        return reader.read(texts.bytes[t], texts.sizes[t]);
    }

    public int wall(int t) {
        if (!isText(t)) {
            return BAD;
        }
        if (texts.sizes[t] < 0) {
            return refuse(NOTHING);
        }
        if (reader.read(texts.bytes[t], texts.sizes[t]) != NONE) {
            return STATE;
        }
        now.become(reader.draft);
        for (int k = 0; k < PLACES; k++) {
            kept[k].built = false;
        }
        return now.size;
    }

    public int brick(int b, int what) {
        if (!now.has(b) || what < 0 || what > 8) {
            return BAD;
        }
        told = now.tells(b, what);
        return 1;
    }

    public int mark(int b, int kind) {
        if (!now.has(b) || kind < CRACKED || kind > ARCH) {
            return BAD;
        }
        if (!now.isIn(b)) {
            return refuse(NOTHING);
        }
        if (!now.bricks[b].isOf(kind)) {
            return refuse(UNLIKE);
        }
        return now.markOf(b, kind);
    }

    public int yes(int p, int is) {
        if (!isPerson(p) || is < 0 || is > 1) {
            return BAD;
        }
        int was = now.yeses >> p & 1;
        now.yeses = now.yeses & ~(1 << p) | is << p;
        return was;
    }

    public int heir(int p, int q) {
        if (!isPerson(p) || !isPerson(q) || p == q) {
            return BAD;
        }
        int marks = 0;
        for (int b = 0; b < now.size; b++) {
            marks += now.bricks[b].passMarks(p, q);
        }
        return marks;
    }

    public int hang(int b, int on) {
        if (!now.has(b) || on != NONE && !now.has(on) || b == on) {
            return BAD;
        }
        int was = now.bricks[b].hangsOn;
        now.bricks[b].hangsOn = on;
        return was;
    }

    public int wedge(int b, int is) {
        if (!now.has(b) || is < 0 || is > 1) {
            return BAD;
        }
        if (!now.isIn(b)) {
            return refuse(NOTHING);
        }
        int bit = 1 << b;
        if ((now.wedges >> b & 1) == is) {
            return STATE;
        }
        if (is == 0 && now.standingNow() != now.standing(now.in, now.wedges & ~bit)) {
            return STATE;
        }
        if (is == 1 && Integer.bitCount(now.wedges) >= MOST_WEDGES) {
            return FULL;
        }
        now.wedges = now.wedges ^ bit;
        return Integer.bitCount(now.wedges);
    }

    public int vine(int b) {
        if (!now.has(b)) {
            return BAD;
        }
        if (!now.isIn(b)) {
            return refuse(NOTHING);
        }
        if (now.hasVine(b)) {
            return STATE;
        }
        now.vines |= 1 << b;
        return Integer.bitCount(now.vines);
    }

    // ---- 2 what stands, drawing

    public int stands() {
        int standing = now.standingNow();
        told = now.in & ~standing;
        return standing;
    }

    public int falls(int set) {
        if (!now.hasAll(set)) {
            return BAD;
        }
        if ((set & ~now.in) != 0) {
            return refuse(NOTHING);
        }
        return now.fallsOf(set);
    }

    public int load(int b) {
        if (!now.has(b)) {
            return BAD;
        }
        if (!now.isIn(b)) {
            return refuse(NOTHING);
        }
        return now.loadOf(b);
    }

    public int great() {
        int best = NONE;
        int most = -1;
        for (int b = 0; b < now.size; b++) {
            int weight = now.isIn(b) ? now.loadOf(b) : -1;
            if (weight > most) {
                most = weight;
                best = b;
            }
        }
        if (best != NONE) {
            told = most;
        }
        return best;
    }

    public int asks(int b) {
        if (!now.has(b)) {
            return BAD;
        }
        if (!now.isIn(b)) {
            return refuse(NOTHING);
        }
        int people = now.askedToDraw(b);
        told = people & ~now.yeses;
        return people;
    }

    public int draw(int b) {
        if (!now.has(b)) {
            return BAD;
        }
        if (!now.isIn(b)) {
            return refuse(NOTHING);
        }
        if (!now.isAgreed(b) || !now.isLoose(b)) {
            return STATE;
        }
        now.drawOut(b);
        return 1;
    }

    public int free() {
        int can = 0;
        int could = 0;
        for (int b = 0; b < now.size; b++) {
            if (now.isIn(b) && now.isLoose(b)) {
                could |= 1 << b;
                can |= now.isAgreed(b) ? 1 << b : 0;
            }
        }
        told = could;
        return can;
    }

    public int undo() {
        int b = now.lastDrawn();
        if (b == NONE || !now.canComeBack(b)) {
            return STATE;
        }
        now.comeBack(b);
        return b;
    }

    public int ahead(int b, int r) {
        if (!now.has(b) || !isRow(r)) {
            return BAD;
        }
        if (!now.isIn(b)) {
            return refuse(NOTHING);
        }
        if (now.hasVine(b)) {
            return STATE;
        }
        int falling = now.fallsOf(1 << b);
        int people = now.askedToDraw(b);
        for (int f = 0; f < now.size; f++) {
            people |= (falling >> f & 1) == 1 ? now.askedToDraw(f) : 0;
        }
        rows.begin(r, Integer.bitCount(falling));
        now.listFromTop(falling, rows.ints[r]);
        told = people;
        return rows.sizes[r];
    }

    public int rests(int b) {
        if (!now.has(b)) {
            return BAD;
        }
        if (!now.isIn(b)) {
            return refuse(NOTHING);
        }
        Brick middle = now.bricks[b];
        told = now.over(middle.course + 1, middle.mask, now.in);
        return now.over(middle.course - 1, middle.mask, now.standingNow());
    }

    public int props(int b) {
        if (!now.has(b)) {
            return BAD;
        }
        if (!now.isIn(b)) {
            return refuse(NOTHING);
        }
        told = now.propsOf(b);
        return Integer.bitCount(told);
    }

    // ---- 3 new bricks, owed, the night

    public int set(int course, int half, int p, int q) {
        if (course < 0 || course >= COURSES || half < 0 || half >= HALVES) {
            return BAD;
        }
        if (!isPerson(p) || !isPerson(q) || p == q) {
            return BAD;
        }
        if (now.size >= MOST_BRICKS) {
            return FULL;
        }
        if (!now.built || !now.settle(course, half, p, q)) {
            return STATE;
        }
        return now.size - 1;
    }

    public int soon() {
        if (!now.built) {
            return STATE;
        }
        int first = NONE;
        int places = 0;
        for (int course = 0; course < COURSES; course++) {
            for (int half = 0; half < HALVES; half++) {
                if (now.isSoonDrawn(course, half)) {
                    first = places == 0 ? 10 * course + half : first;
                    places++;
                }
            }
        }
        if (places > 0) {
            told = places;
        }
        return first;
    }

    public int owes(int p, int q) {
        if (!isPerson(p) || !isPerson(q) || p == q) {
            return BAD;
        }
        return now.netDebt(p, q);
    }

    public int rich() {
        int best = 0;
        int most = now.netCredit(0);
        for (int p = 1; p < PEOPLE; p++) {
            int credit = now.netCredit(p);
            if (credit > most) {
                most = credit;
                best = p;
            }
        }
        told = most;
        return best;
    }

    public int alone(int set) {
        if (!now.hasAll(set) || set == 0) {
            return BAD;
        }
        int people = (1 << PEOPLE) - 1;
        int single = 0;
        for (int b = 0; b < now.size; b++) {
            if ((set >> b & 1) == 1) {
                int owners = now.bricks[b].people();
                people &= owners;
                single += Integer.bitCount(owners) == 1 ? 1 : 0;
            }
        }
        told = single;
        return people;
    }

    public int few(int set) {
        if (!now.hasAll(set) || set == 0) {
            return BAD;
        }
        int best = (1 << PEOPLE) - 1;
        for (int people = 1; people < 1 << PEOPLE; people++) {
            boolean fewer = Integer.bitCount(people) < Integer.bitCount(best);
            if (fewer && now.reachesAll(people, set)) {
                best = people;
            }
        }
        told = best;
        return Integer.bitCount(best);
    }

    public int moved(int k) {
        if (!isPlace(k)) {
            return BAD;
        }
        if (!kept[k].built) {
            return refuse(NOTHING);
        }
        told = now.in & ~kept[k].in;
        return kept[k].in & ~now.in;
    }

    // ---- 4 frost, odds, years

    public int frost(int seed, int c) {
        if (seed < 1 || seed >= LOT_MODULUS || !isTwelfth(c)) {
            return BAD;
        }
        int before = now.standingNow();
        int cracked = now.crack(seed, c);
        int fallen = before & ~now.standingNow();
        now.takeOut(fallen);
        told = fallen;
        return cracked;
    }

    public int odds(int b, int c) {
        if (!now.has(b) || !isTwelfth(c)) {
            return BAD;
        }
        if (!now.isIn(b)) {
            return refuse(NOTHING);
        }
        int beneath = now.allBeneath(b);
        int n = Integer.bitCount(beneath);
        if (n > MOST_BENEATH) {
            return SPENT;
        }
        tellFraction(now.chances(b, c, beneath), power(TWELVE, n));
        return 1;
    }

    public int go(int n) {
        if (n < 0 || n > MOST_YEARS_AT_ONCE) {
            return BAD;
        }
        if (now.year + n > LAST_YEAR) {
            return SPENT;
        }
        for (int i = 0; i < n; i++) {
            now.year++;
            now.growVine();
        }
        return Integer.bitCount(now.vines);
    }

    public int keep(int k) {
        if (!isPlace(k)) {
            return BAD;
        }
        if (!now.built) {
            return STATE;
        }
        kept[k].become(now);
        return Integer.bitCount(now.in);
    }

    public int on(int k) {
        if (!isPlace(k)) {
            return BAD;
        }
        if (!kept[k].built) {
            return refuse(NOTHING);
        }
        now.become(kept[k]);
        return Integer.bitCount(now.in);
    }

    // ---- 5 what is told

    public int asked() {
        return told;
    }

    public long upper() {
        return upperNumber;
    }

    public long lower() {
        return lowerNumber;
    }

    public int count(int what) {
        switch (what) {
            case 0:
                return now.size;
            case 1:
                return Integer.bitCount(now.in);
            case 2:
                return now.bridges();
            case 3:
                return Integer.bitCount(now.wedges);
            case 4:
                return Integer.bitCount(now.vines);
            case 5:
                return now.year;
            case 6:
                return rows.there();
            case 7:
                return texts.there();
            default:
                return BAD;
        }
    }

    public int finding() {
        return latestFinding;
    }

    public int findings(int f) {
        if (f < NOTHING || f > SIZE) {
            return BAD;
        }
        return found[f];
    }

    public long digest() {
        long h = 17;
        for (int what = 0; what < 8; what++) {
            h = 31 * h + count(what);
        }
        h = now.mixInto(h);
        for (int k = 0; k < PLACES; k++) {
            h = 31 * h + (kept[k].built ? kept[k].in : -1);
        }
        return texts.mixInto(rows.mixInto(h));
    }

    // ---- what the calls share

    private static boolean isRow(int r) {
        return r >= 0 && r < ROWS;
    }

    private static boolean isText(int t) {
        return t >= 0 && t < TEXTS;
    }

    private static boolean isPerson(int p) {
        return p >= 0 && p < PEOPLE;
    }

    private static boolean isPlace(int k) {
        return k >= 0 && k < PLACES;
    }

    private static boolean isTwelfth(int c) {
        return c >= 0 && c <= TWELVE;
    }

    private int refuse(int f) {
        latestFinding = f;
        found[f]++;
        return FINDING;
    }

    private void tellFraction(long over, long under) {
        long g = divisor(over, under);
        if (g > 0) {
            upperNumber = over / g;
            lowerNumber = under / g;
        }
    }

    private static long divisor(long x, long y) {
        // Euclid needs under 100 steps for any two longs.
        for (int i = 0; i < 100 && y != 0; i++) {
            long rest = x % y;
            x = y;
            y = rest;
        }
        return x;
    }

    private static long power(int base, int times) {
        long p = 1;
        for (int i = 0; i < times; i++) {
            p *= base;
        }
        return p;
    }

    /** The rows of ints; a size of -1 is a row that is missing. */
    private static final class Rows {
        final int[][] ints = new int[ROWS][LONGEST_ROW];
        final int[] sizes = new int[ROWS];

        Rows() {
            for (int r = 0; r < ROWS; r++) {
                sizes[r] = -1;
            }
        }

        void begin(int r, int n) {
            sizes[r] = n;
            for (int i = 0; i < n; i++) {
                ints[r][i] = 0;
            }
        }

        boolean hasPlaces(int r, int from, int n) {
            // size - from can't wrap: from isn't negative where it is reached
            return from >= 0 && n <= sizes[r] - from;
        }

        long sum(int r) {
            long s = 0;
            for (int i = 0; i < sizes[r]; i++) {
                s += ints[r][i];
            }
            return s;
        }

        int there() {
            int n = 0;
            for (int r = 0; r < ROWS; r++) {
                n += sizes[r] >= 0 ? 1 : 0;
            }
            return n;
        }

        long mixInto(long h) {
            for (int r = 0; r < ROWS; r++) {
                h = 31 * h + sizes[r];
                for (int i = 0; i < sizes[r]; i++) {
                    h = 31 * h + ints[r][i];
                }
            }
            return h;
        }
    }

    /** The texts of bytes; a size of -1 is a text that is missing. */
    private static final class Texts {
        final byte[][] bytes = new byte[TEXTS][LONGEST_TEXT];
        final int[] sizes = new int[TEXTS];

        Texts() {
            for (int t = 0; t < TEXTS; t++) {
                sizes[t] = -1;
            }
        }

        void begin(int t, int n) {
            sizes[t] = n;
            for (int i = 0; i < n; i++) {
                bytes[t][i] = BLANK;
            }
        }

        int there() {
            int n = 0;
            for (int t = 0; t < TEXTS; t++) {
                n += sizes[t] >= 0 ? 1 : 0;
            }
            return n;
        }

        long mixInto(long h) {
            for (int t = 0; t < TEXTS; t++) {
                h = 31 * h + sizes[t];
                for (int i = 0; i < sizes[t]; i++) {
                    h = 31 * h + bytes[t][i];
                }
            }
            return h;
        }
    }

    /** Reads a text as a wall into a draft, up to its first fault. */
    private static final class Reader {
        final Wall draft = new Wall();
        byte[] text = new byte[0];
        int length;
        int place;

        int read(byte[] bytes, int size) {
            text = bytes;
            length = size;
            place = 0;
            draft.clear();
            skipBlanks();
            if (!readWidth()) {
                return place;
            }
            // one round more than bricks: it finds the end, or a brick too many
            for (int i = 0; i <= MOST_BRICKS; i++) {
                skipBlanks();
                if (place >= length) {
                    return NONE;
                }
                if (!readBrick()) {
                    return place;
                }
            }
            return place;
        }

        private int sign() {
            return place < length && place < text.length ? text[place] : END;
        }

        private void skipBlanks() {
            while (place < length && sign() == BLANK) {
                place++;
            }
        }

        private boolean readWidth() {
            if (sign() != 'w') {
                return false;
            }
            place++;
            int width = sign() - '0';
            if (width < 2 || width > HALVES) {
                return false;
            }
            draft.width = width;
            draft.built = true;
            place++;
            return true;
        }

        private boolean readBrick() {
            int kind = kindOf(sign());
            if (kind < 0 || draft.size >= MOST_BRICKS) {
                return false;
            }
            place++;
            int course = sign() - '0';
            if (course < 0 || course >= COURSES) {
                return false;
            }
            place++;
            int half = sign() - '0';
            if (half < 0 || half >= HALVES || !draft.hasRoom(kind, course, half)) {
                return false;
            }
            place++;
            return readMarks(kind, course, half);
        }

        private boolean readMarks(int kind, int course, int half) {
            int first = readPerson(NONE, NONE);
            if (first == NONE) {
                return false;
            }
            int second = readPerson(first, NONE);
            if (second == NONE) {
                return false;
            }
            int third = kind == TRIPLE ? readPerson(first, second) : NONE;
            if (kind == TRIPLE && third == NONE) {
                return false;
            }
            draft.add(kind, course, half);
            draft.bricks[draft.size - 1].setMarks(first, second, third);
            return true;
        }

        private int readPerson(int unlike, int unlikeToo) {
            int p = sign() - 'A';
            if (!isPerson(p) || p == unlike || p == unlikeToo) {
                return NONE;
            }
            place++;
            return p;
        }

        private static int kindOf(int letter) {
            switch (letter) {
                case 'b':
                    return PLAIN;
                case 'c':
                    return CRACKED;
                case 'f':
                    return FALSE;
                case 't':
                    return TRIPLE;
                case 'r':
                    return BRIDGE;
                case 'a':
                    return ARCH;
                default:
                    return -1;
            }
        }
    }

    /** One brick: where it lies, whose marks it bears, on which one it hangs. */
    private static final class Brick {
        int kind;
        int course;
        int half;
        // its halves as bits, kept since all that asks what stands asks for it
        int mask;
        int first;
        int second;
        int third;
        int hangsOn;

        void lieAt(int itsKind, int itsCourse, int itsHalf) {
            kind = itsKind;
            course = itsCourse;
            half = itsHalf;
            mask = maskOf(itsKind, itsHalf);
            hangsOn = NONE;
        }

        void setMarks(int one, int two, int three) {
            first = one;
            second = two;
            third = three;
        }

        void become(Brick other) {
            lieAt(other.kind, other.course, other.half);
            setMarks(other.first, other.second, other.third);
            hangsOn = other.hangsOn;
        }

        boolean isBridge() {
            return kind >= BRIDGE;
        }

        boolean isOf(int asked) {
            return kind == asked || asked == BRIDGE && kind == ARCH;
        }

        static int lengthOf(int kind) {
            return kind >= BRIDGE ? 3 : 2;
        }

        // halves are bits from 1 on, so that a place left of the wall has a bit too
        static int maskOf(int kind, int half) {
            return (kind >= BRIDGE ? 7 : 3) << half + 1;
        }

        /** The middle half of a bridge. */
        int middle() {
            return 2 << half + 1;
        }

        /** The halves left and right of a bridge. */
        int sides() {
            return 1 << half | 1 << half + 4;
        }

        int rank() {
            return 2 * course + (kind == ARCH ? 1 : 0);
        }

        /** Whether it stands of itself, by the halves that bear beneath and those at its sides that hold an arch. */
        boolean holds(int beneath, int beside) {
            int ends = mask & ~middle();
            int sides = sides();
            switch (kind) {
                case CRACKED:
                    return (beneath & mask) == mask;
                case BRIDGE:
                    return (beneath & ends) == ends;
                case ARCH:
                    return (beneath & ends) == ends || (beside & sides) == sides;
                default:
                    return (beneath & mask) != 0;
            }
        }

        boolean touches(Brick other) {
            int reach = course == other.course ? mask << 1 | mask >> 1 : mask;
            return Math.abs(course - other.course) <= 1 && (reach & other.mask) != 0;
        }

        /** The people whose marks are marks: the second of a false brick is none. */
        int people() {
            int bits = 1 << first;
            if (kind != FALSE) {
                bits |= 1 << second;
            }
            if (kind == TRIPLE) {
                bits |= 1 << third;
            }
            return bits;
        }

        int debt(int from, int to) {
            if (kind == FALSE || first != from) {
                return 0;
            }
            return (second == to ? 1 : 0) + (third == to ? 1 : 0);
        }

        int passMarks(int from, int to) {
            int n = (first == from ? 1 : 0) + (second == from ? 1 : 0) + (third == from ? 1 : 0);
            first = first == from ? to : first;
            second = second == from ? to : second;
            third = third == from ? to : third;
            return n;
        }
    }

    /** A wall and all that is kept with it; sets of bricks and of people are bits. */
    private static final class Wall {
        final Brick[] bricks = new Brick[MOST_BRICKS];
        // by courses, arches last in theirs: what bears a brick comes ahead of it
        final int[] order = new int[MOST_BRICKS];
        final int[] drawn = new int[MOST_BRICKS];
        // the halves of each course where bricks stand, and where such that are no arches do
        final int[] bearing = new int[COURSES];
        final int[] holding = new int[COURSES];
        boolean built;
        int width;
        int size;
        int in;
        int wedges;
        int vines;
        int yeses;
        int year;
        int drawnSize;

        Wall() {
            for (int b = 0; b < MOST_BRICKS; b++) {
                bricks[b] = new Brick();
            }
        }

        void clear() {
            built = false;
            width = 0;
            size = 0;
            in = 0;
            wedges = 0;
            vines = 0;
            yeses = 0;
            year = 0;
            drawnSize = 0;
        }

        void become(Wall other) {
            built = other.built;
            width = other.width;
            size = other.size;
            in = other.in;
            wedges = other.wedges;
            vines = other.vines;
            yeses = other.yeses;
            year = other.year;
            drawnSize = other.drawnSize;
            for (int b = 0; b < MOST_BRICKS; b++) {
                bricks[b].become(other.bricks[b]);
                order[b] = other.order[b];
                drawn[b] = other.drawn[b];
            }
        }

        boolean has(int b) {
            return b >= 0 && b < size;
        }

        boolean hasAll(int set) {
            return set >= 0 && set >> size == 0;
        }

        boolean isIn(int b) {
            return (in >> b & 1) == 1;
        }

        boolean hasVine(int b) {
            return (vines >> b & 1) == 1;
        }

        boolean hasRoom(int kind, int course, int half) {
            boolean within = half + Brick.lengthOf(kind) <= width;
            return within && over(course, Brick.maskOf(kind, half), in) == 0;
        }

        /** Those of a set that lie in a course with one of these halves. */
        int over(int course, int mask, int set) {
            int bits = 0;
            for (int b = 0; b < size; b++) {
                Brick x = bricks[b];
                boolean lies = x.course == course && (x.mask & mask) != 0;
                bits |= lies ? set & 1 << b : 0;
            }
            return bits;
        }

        /** A new brick, the last one, that is in; the caller has seen that there is room. */
        void add(int kind, int course, int half) {
            if (size >= MOST_BRICKS) {
                return;
            }
            int b = size;
            bricks[b].lieAt(kind, course, half);
            int p = b;
            while (p > 0 && bricks[order[p - 1]].rank() > bricks[b].rank()) {
                order[p] = order[p - 1];
                p--;
            }
            order[p] = b;
            in |= 1 << b;
            size++;
        }

        void removeLast() {
            if (size <= 0) {
                return;
            }
            int b = size - 1;
            int to = 0;
            for (int i = 0; i < size; i++) {
                if (order[i] != b) {
                    order[to] = order[i];
                    to++;
                }
            }
            in &= ~(1 << b);
            size--;
        }

        // ---- what stands

        /** Which of those that are inside stand, by these wedges; bearing and holding tell their halves. */
        int standing(int inside, int wedged) {
            clearHalves();
            int set = 0;
            int helped = wedged | vines;
            for (int i = 0; i < size; i++) {
                int b = order[i];
                Brick x = bricks[b];
                boolean stays = (helped >> b & 1) == 1 || x.holds(beneath(x.course), holding[x.course]);
                if ((inside >> b & 1) == 1 && stays) {
                    set |= 1 << b;
                    fillHalves(x);
                }
            }
            return set;
        }

        int standingNow() {
            return standing(in, wedges);
        }

        int beneath(int course) {
            return course <= 0 ? -1 : bearing[course - 1];
        }

        private void clearHalves() {
            for (int c = 0; c < COURSES; c++) {
                bearing[c] = 0;
                holding[c] = 0;
            }
        }

        private void fillHalves(Brick x) {
            bearing[x.course] |= x.mask;
            if (x.kind != ARCH) {
                holding[x.course] |= x.mask;
            }
        }

        int fallsOf(int set) {
            int with = standingNow() & ~set;
            return with & ~standing(in & ~set, wedges);
        }

        int loadOf(int b) {
            return Integer.bitCount(fallsOf(1 << b));
        }

        /**
         * The wedges that do instead of a brick. In the end all others that stand now have to,
         * so just those need one that would not hold even while all of these do.
         */
        int propsOf(int b) {
            int rest = standingNow() & ~(1 << b);
            int helped = wedges | vines;
            clearHalves();
            for (int i = 0; i < size; i++) {
                if ((rest >> i & 1) == 1) {
                    fillHalves(bricks[i]);
                }
            }
            int need = 0;
            for (int i = 0; i < size; i++) {
                Brick x = bricks[i];
                boolean stays = (helped >> i & 1) == 1 || x.holds(beneath(x.course), holding[x.course]);
                need |= stays ? 0 : rest & 1 << i;
            }
            return need;
        }

        // ---- what is told of a brick

        int tells(int b, int what) {
            Brick x = bricks[b];
            switch (what) {
                case 0:
                    return x.kind;
                case 1:
                    return x.course;
                case 2:
                    return x.half;
                case 3:
                    return x.first;
                case 4:
                    return x.second;
                case 5:
                    return x.third;
                case 6:
                    return in >> b & 1;
                case 7:
                    return (wedges >> b & 1) + 2 * (vines >> b & 1);
                default:
                    return x.hangsOn;
            }
        }

        int markOf(int b, int kind) {
            Brick x = bricks[b];
            standingNow();
            int beneath = beneath(x.course);
            switch (kind) {
                case CRACKED:
                    return Integer.bitCount(beneath & x.mask);
                case FALSE:
                    return x.second;
                case TRIPLE:
                    return Math.max(x.first, Math.max(x.second, x.third));
                case BRIDGE:
                    return (beneath & x.middle()) != 0 ? 1 : 0;
                default:
                    return Integer.bitCount(bearing[x.course] & x.sides());
            }
        }

        int bridges() {
            int n = 0;
            for (int b = 0; b < size; b++) {
                n += bricks[b].isBridge() ? 1 : 0;
            }
            return n;
        }

        long mixInto(long h) {
            h = 31 * h + width;
            h = 31 * h + yeses;
            for (int b = 0; b < size; b++) {
                for (int what = 0; what <= 8; what++) {
                    h = 31 * h + tells(b, what);
                }
            }
            for (int i = 0; i < drawnSize; i++) {
                h = 31 * h + drawn[i];
            }
            return h;
        }

        // ---- drawing

        int askedToDraw(int b) {
            int other = bricks[b].hangsOn;
            return other != NONE && !isIn(other) ? 0 : bricks[b].people();
        }

        boolean isAgreed(int b) {
            return (askedToDraw(b) & ~yeses) == 0;
        }

        boolean isLoose(int b) {
            return !hasVine(b) && fallsOf(1 << b) == 0;
        }

        void takeOut(int set) {
            in &= ~set;
            wedges &= ~set;
        }

        void drawOut(int b) {
            takeOut(1 << b);
            // none is drawn twice without coming back, so there is always room
            if (drawnSize < MOST_BRICKS) {
                drawn[drawnSize] = b;
                drawnSize++;
            }
        }

        int lastDrawn() {
            return drawnSize > 0 ? drawn[drawnSize - 1] : NONE;
        }

        boolean canComeBack(int b) {
            Brick x = bricks[b];
            boolean taken = over(x.course, x.mask, in) != 0;
            return !taken && (standing(in | 1 << b, wedges) >> b & 1) == 1;
        }

        void comeBack(int b) {
            in |= 1 << b;
            drawnSize--;
        }

        /** A set of bricks, the highest course first, in one course arches first, then by numbers. */
        void listFromTop(int set, int[] into) {
            int n = 0;
            for (int rank = 2 * COURSES - 1; rank >= 0; rank--) {
                for (int b = 0; b < size; b++) {
                    if ((set >> b & 1) == 1 && bricks[b].rank() == rank && n < into.length) {
                        into[n] = b;
                        n++;
                    }
                }
            }
        }

        // ---- new bricks, owed, the night

        /** Sets a new brick of kind 0, if it has room and would stand. */
        boolean settle(int course, int half, int p, int q) {
            if (size >= MOST_BRICKS || !hasRoom(PLAIN, course, half)) {
                return false;
            }
            add(PLAIN, course, half);
            int b = size - 1;
            bricks[b].setMarks(p, q, NONE);
            boolean stays = (standingNow() >> b & 1) == 1;
            if (!stays) {
                removeLast();
            }
            return stays;
        }

        boolean isSoonDrawn(int course, int half) {
            if (!settle(course, half, 0, 1)) {
                return false;
            }
            boolean light = fallsOf(1 << size - 1) == 0;
            removeLast();
            return light;
        }

        int netDebt(int p, int q) {
            int net = 0;
            for (int b = 0; b < size; b++) {
                if (isIn(b)) {
                    net += bricks[b].debt(p, q) - bricks[b].debt(q, p);
                }
            }
            return net;
        }

        int netCredit(int p) {
            int net = 0;
            for (int q = 0; q < PEOPLE; q++) {
                net += q == p ? 0 : netDebt(q, p);
            }
            return net;
        }

        boolean reachesAll(int people, int set) {
            for (int b = 0; b < size; b++) {
                if ((set >> b & 1) == 1 && (bricks[b].people() & people) == 0) {
                    return false;
                }
            }
            return true;
        }

        // ---- frost, odds, years

        int crack(int seed, int c) {
            long lot = seed;
            int cracked = 0;
            for (int b = 0; b < size; b++) {
                if (isIn(b)) {
                    lot = lot * LOT_FACTOR % LOT_MODULUS;
                    if (lot % TWELVE < c && bricks[b].kind == PLAIN) {
                        bricks[b].kind = CRACKED;
                        cracked |= 1 << b;
                    }
                }
            }
            return cracked;
        }

        int allBeneath(int b) {
            int bits = 0;
            for (int i = 0; i < size; i++) {
                bits |= bricks[i].course < bricks[b].course ? in & 1 << i : 0;
            }
            return bits;
        }

        /** In how many of the 12 to the n cases a brick stands, n being how many are beneath. */
        long chances(int b, int c, int beneath) {
            int n = Integer.bitCount(beneath);
            if (n > MOST_BENEATH) {
                return 0;
            }
            long cases = 0;
            int missing = 0;
            for (int i = 0; i < 1 << n; i++) {
                if ((standing(in & ~missing, wedges) >> b & 1) == 1) {
                    int k = Integer.bitCount(missing);
                    cases += power(c, k) * power(TWELVE - c, n - k);
                }
                // the next subset of those beneath
                missing = missing - beneath & beneath;
            }
            return cases;
        }

        void growVine() {
            for (int b = 0; b < size; b++) {
                if (isIn(b) && !hasVine(b) && touchesVine(b)) {
                    vines |= 1 << b;
                    return;
                }
            }
        }

        private boolean touchesVine(int b) {
            for (int other = 0; other < size; other++) {
                if (hasVine(other) && bricks[b].touches(bricks[other])) {
                    return true;
                }
            }
            return false;
        }
    }
}
