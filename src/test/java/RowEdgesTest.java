/** The boundary cases of promises 1 to 9: a new object, rows, texts. */
public final class RowEdgesTest {
    private static final int MIN = Integer.MIN_VALUE, MAX = Integer.MAX_VALUE;
    private static final Due DUE = new Due("RowEdgesTest");
    private static final Refused BUSY = new Refused(DUE, Busy::make);
    private static final Refused NEW = new Refused(DUE, x -> { });

    public static void main(String[] args) {
        newObjectHasNoRowsTextsBricks();
        newObjectsShareNothing();
        rowNumbers();
        rowSizes();
        rowOrder();
        rowAnew();
        layNumbers();
        layPlaces();
        layOrder();
        layTellsWhatItWas();
        atNumbers();
        atPlaces();
        atOrder();
        tear();
        tearMissing();
        copyNumbers();
        copySize();
        copyNothing();
        copyBeyond();
        copyOrder();
        copyNone();
        copyAll();
        copyAsIfTakenAhead();
        meanRefused();
        meanCut();
        meanOfGreatInts();
        textNumbers();
        textSizes();
        textOrder();
        textAnew();
        putNumbers();
        putPlaces();
        putOrder();
        putCut();
        DUE.end();
    }

    private static void rowIs(DryBargains x, int r, int... ints) {
        for (int i = 0; i < ints.length; i++) {
            DUE.is("at(" + r + ", " + i + ")", x.at(r, i), 1);
            DUE.is("at(" + r + ", " + i + "), asked()", x.asked(), ints[i]);
        }
        DUE.is("row " + r + " has no more", x.at(r, ints.length), Refused.FINDING);
    }

    private static void fill(DryBargains x, int r, int... ints) {
        x.row(r, ints.length);
        for (int i = 0; i < ints.length; i++) {
            x.lay(r, i, ints[i]);
        }
    }

    // ---- 1 a new object

    private static void newObjectHasNoRowsTextsBricks() {
        DUE.promise("1 No ROWS, TEXTS, BRICKS");
        for (int what = 0; what < 8; what++) {
            DUE.is("count(" + what + ")", new DryBargains().count(what), 0);
        }
        for (int r = 0; r < 6; r++) {
            int which = r;
            NEW.nothing("tear(" + r + ")", x -> x.tear(which));
        }
        for (int t = 0; t < 4; t++) {
            int which = t;
            NEW.nothing("put(" + t + ", 0, 0)", x -> x.put(which, 0, 0));
        }
        NEW.bad("no BRICK 0", x -> x.brick(0, 0));
        for (int k = 0; k < 3; k++) {
            int which = k;
            NEW.nothing("no kept WALL " + k, x -> x.on(which));
        }
        NEW.state("no WALL", x -> x.keep(0));
        for (int p = 0; p < 6; p++) {
            DUE.is("no YES of " + p, new DryBargains().yes(p, 0), 0);
        }
    }

    private static void newObjectsShareNothing() {
        DUE.promise("1 a new object beside one that is in use");
        long before = new DryBargains().digest();
        DryBargains used = new DryBargains();
        Busy.make(used);
        used.tear(3);
        DryBargains x = new DryBargains();
        DUE.is("digest()", x.digest(), before);
        DUE.is("asked()", x.asked(), 0);
        DUE.is("upper()", x.upper(), 0);
        DUE.is("lower()", x.lower(), 1);
        DUE.is("finding()", x.finding(), 0);
        DUE.is("findings(1)", x.findings(1), 0);
    }

    // ---- 2 row

    private static void rowNumbers() {
        DUE.promise("2 row, ROWS 0 .. 5");
        for (int r : Refused.outside(0, 5)) {
            BUSY.bad("row(" + r + ", 1)", x -> x.row(r, 1));
        }
        for (int r : new int[] {0, 5}) {
            DryBargains x = new DryBargains();
            DUE.is("row(" + r + ", 1)", x.row(r, 1), 1);
            DUE.is("one is there", x.count(6), 1);
            rowIs(x, r, 0);
        }
    }

    private static void rowSizes() {
        DUE.promise("2 row, of 0 to 40 ints; BAD: also n above 40; SIZE: below 0");
        DryBargains x = new DryBargains();
        DUE.is("row(2, 0)", x.row(2, 0), 0);
        rowIs(x, 2);
        DUE.is("it is there", x.count(6), 1);
        DUE.is("row(2, 40)", x.row(2, 40), 40);
        rowIs(x, 2, new int[40]);
        for (int n : new int[] {41, MAX}) {
            BUSY.bad("row(0, " + n + ")", y -> y.row(Busy.ROW, n));
            BUSY.bad("row(2, " + n + ")", y -> y.row(Busy.NO_ROW, n));
        }
        for (int n : new int[] {-1, MIN}) {
            BUSY.size("row(0, " + n + ")", y -> y.row(Busy.ROW, n));
            BUSY.size("row(2, " + n + ")", y -> y.row(Busy.NO_ROW, n));
        }
    }

    private static void rowOrder() {
        DUE.promise("2 row, BAD ahead of SIZE");
        BUSY.bad("row(-1, -1)", x -> x.row(-1, -1));
        BUSY.bad("row(6, -1)", x -> x.row(6, -1));
        BUSY.bad("row(6, 41)", x -> x.row(6, 41));
    }

    private static void rowAnew() {
        DUE.promise("2 row, n ints 0");
        DryBargains x = new DryBargains();
        fill(x, 1, 5, 6, 7);
        fill(x, 3, 8, 9);
        DUE.is("as long", x.row(1, 3), 3);
        rowIs(x, 1, 0, 0, 0);
        fill(x, 1, 5, 6, 7);
        DUE.is("shorter", x.row(1, 1), 1);
        rowIs(x, 1, 0);
        DUE.is("longer", x.row(1, 4), 4);
        rowIs(x, 1, 0, 0, 0, 0);
        rowIs(x, 3, 8, 9);
        fill(x, 1, 5, 6, 7);
        x.tear(1);
        x.row(1, 3);
        rowIs(x, 1, 0, 0, 0);
        DUE.is("rows", x.count(6), 2);
    }

    // ---- 3 lay

    private static void layNumbers() {
        DUE.promise("3 lay, ROWS 0 .. 5");
        for (int r : Refused.outside(0, 5)) {
            BUSY.bad("lay(" + r + ", 0, 1)", x -> x.lay(r, 0, 1));
        }
        for (int r : new int[] {0, 5}) {
            DryBargains x = new DryBargains();
            x.row(r, 1);
            DUE.is("lay(" + r + ", 0, 9)", x.lay(r, 0, 9), 1);
            rowIs(x, r, 9);
        }
        BUSY.nothing("a ROW that is missing", x -> x.lay(Busy.NO_ROW, 0, 1));
    }

    private static void layPlaces() {
        DUE.promise("3 lay, BEYOND");
        for (int i : Refused.outside(0, 2)) {
            BUSY.beyond("lay(0, " + i + ", 1)", x -> x.lay(Busy.ROW, i, 1));
        }
        for (int i : Refused.outside(0, 39)) {
            BUSY.beyond("lay(1, " + i + ", 1) of 40", x -> x.lay(Busy.FULL_ROW, i, 1));
        }
        for (int i : new int[] {MIN, -1, 0, 1, MAX}) {
            BUSY.beyond("lay(4, " + i + ", 1) of none", x -> x.lay(Busy.EMPTY_ROW, i, 1));
        }
        DryBargains x = new DryBargains();
        x.row(0, 40);
        DUE.is("the first place", x.lay(0, 0, 3), 1);
        DUE.is("the last place", x.lay(0, 39, 4), 1);
        int[] due = new int[40];
        due[0] = 3;
        due[39] = 4;
        rowIs(x, 0, due);
    }

    private static void layOrder() {
        DUE.promise("3 lay, BAD, then NOTHING, then BEYOND");
        BUSY.bad("BAD ahead of BEYOND", x -> x.lay(6, -1, 1));
        BUSY.nothing("NOTHING ahead of BEYOND", x -> x.lay(Busy.NO_ROW, 40, 1));
        BUSY.nothing("NOTHING ahead of BEYOND", x -> x.lay(Busy.NO_ROW, -1, 1));
    }

    private static void layTellsWhatItWas() {
        DUE.promise("3 lay, what it was");
        DryBargains x = new DryBargains();
        x.row(0, 2);
        int was = 0;
        for (int v : new int[] {MIN, MAX, -1, 0, 1, MIN}) {
            DUE.is("lay(0, 1, " + v + ")", x.lay(0, 1, v), 1);
            DUE.is("what it was", x.asked(), was);
            rowIs(x, 0, 0, v);
            was = v;
        }
    }

    // ---- 4 at

    private static void atNumbers() {
        DUE.promise("4 at, ROWS 0 .. 5");
        for (int r : Refused.outside(0, 5)) {
            BUSY.bad("at(" + r + ", 0)", x -> x.at(r, 0));
        }
        for (int r : new int[] {0, 5}) {
            DryBargains x = new DryBargains();
            fill(x, r, MIN, MAX);
            rowIs(x, r, MIN, MAX);
        }
        BUSY.nothing("a ROW that is missing", x -> x.at(Busy.NO_ROW, 0));
    }

    private static void atPlaces() {
        DUE.promise("4 at, BEYOND");
        for (int i : Refused.outside(0, 2)) {
            BUSY.beyond("at(0, " + i + ")", x -> x.at(Busy.ROW, i));
        }
        for (int i : Refused.outside(0, 39)) {
            BUSY.beyond("at(1, " + i + ") of 40", x -> x.at(Busy.FULL_ROW, i));
        }
        for (int i : new int[] {MIN, -1, 0, 1, MAX}) {
            BUSY.beyond("at(4, " + i + ") of none", x -> x.at(Busy.EMPTY_ROW, i));
        }
    }

    private static void atOrder() {
        DUE.promise("4 at, BAD, then NOTHING, then BEYOND");
        BUSY.bad("BAD ahead of BEYOND", x -> x.at(6, -1));
        BUSY.nothing("NOTHING ahead of BEYOND", x -> x.at(Busy.NO_ROW, 40));
        BUSY.nothing("NOTHING ahead of BEYOND", x -> x.at(Busy.NO_ROW, -1));
    }

    // ---- 5 tear

    private static void tear() {
        DUE.promise("5 tear, a ROW is missing");
        DryBargains x = new DryBargains();
        x.row(0, 0);
        x.row(5, 40);
        fill(x, 1, 4);
        DUE.is("one of none", x.tear(0), 1);
        DUE.is("one of 40", x.tear(5), 1);
        DUE.is("one is left", x.count(6), 1);
        rowIs(x, 1, 4);
        DUE.is("a ROW again", x.row(5, 1), 1);
        rowIs(x, 5, 0);
        x.tear(5);
        x.tear(1);
        DUE.is("all are missing, as at first", x.digest(), new DryBargains().digest());
    }

    private static void tearMissing() {
        DUE.promise("5 tear, BAD; NOTHING");
        for (int r : Refused.outside(0, 5)) {
            BUSY.bad("tear(" + r + ")", x -> x.tear(r));
        }
        BUSY.nothing("never there", x -> x.tear(Busy.NO_ROW));
        new Refused(DUE, x -> {
            x.row(0, 1);
            x.tear(0);
        }).nothing("torn already", x -> x.tear(0));
    }

    // ---- 6 copy

    private static void copyNumbers() {
        DUE.promise("6 copy, ROWS 0 .. 5");
        for (int r : Refused.outside(0, 5)) {
            BUSY.bad("copy(" + r + ", 0, 1, 0, 1)", x -> x.copy(r, 0, Busy.FULL_ROW, 0, 1));
            BUSY.bad("copy(0, 0, " + r + ", 0, 1)", x -> x.copy(Busy.ROW, 0, r, 0, 1));
        }
        DryBargains x = new DryBargains();
        fill(x, 0, 8);
        x.row(5, 1);
        DUE.is("from 0 to 5", x.copy(0, 0, 5, 0, 1), 1);
        rowIs(x, 5, 8);
        x.row(0, 1);
        DUE.is("from 5 to 0", x.copy(5, 0, 0, 0, 1), 1);
        rowIs(x, 0, 8);
    }

    private static void copySize() {
        DUE.promise("6 copy, SIZE: n below 0");
        BUSY.size("n is -1", x -> x.copy(Busy.ROW, 1, Busy.FULL_ROW, 1, -1));
        BUSY.size("n is the least", x -> x.copy(Busy.ROW, 1, Busy.FULL_ROW, 1, MIN));
        BUSY.size("on itself", x -> x.copy(Busy.ROW, 1, Busy.ROW, 1, -1));
    }

    private static void copyNothing() {
        DUE.promise("6 copy, NOTHING: either");
        BUSY.nothing("the first", x -> x.copy(Busy.NO_ROW, 0, Busy.ROW, 0, 1));
        BUSY.nothing("the other", x -> x.copy(Busy.ROW, 0, Busy.NO_ROW, 0, 1));
        BUSY.nothing("both", x -> x.copy(Busy.NO_ROW, 0, 3, 0, 1));
        BUSY.nothing("none of it", x -> x.copy(Busy.NO_ROW, 0, Busy.ROW, 0, 0));
        BUSY.nothing("none to it", x -> x.copy(Busy.ROW, 0, Busy.NO_ROW, 0, 0));
        BUSY.nothing("on itself", x -> x.copy(Busy.NO_ROW, 0, Busy.NO_ROW, 0, 0));
    }

    private static void copyBeyond() {
        DUE.promise("6 copy, BEYOND: not so many there");
        int[][] from = {{-1, 1}, {0, 4}, {1, 3}, {2, 2}, {3, 1}, {4, 0}, {-1, 0}, {MIN, 0}, {MIN, 1}, {MAX, 0},
            {MAX, 1}, {MAX, MAX}, {0, MAX}, {1, MAX}, {2, MAX}, {3, MAX}, {MIN, MAX}};
        for (int[] f : from) {
            BUSY.beyond("copy(0, " + f[0] + ", 1, 0, " + f[1] + ")", x -> x.copy(Busy.ROW, f[0], Busy.FULL_ROW, 0, f[1]));
            BUSY.beyond("copy(1, 0, 0, " + f[0] + ", " + f[1] + ")", x -> x.copy(Busy.FULL_ROW, 0, Busy.ROW, f[0], f[1]));
        }
        BUSY.beyond("41 of 40", x -> x.copy(Busy.FULL_ROW, 0, Busy.FULL_ROW, 0, 41));
        BUSY.beyond("of a ROW of none", x -> x.copy(Busy.EMPTY_ROW, 0, Busy.ROW, 0, 1));
        BUSY.beyond("to a ROW of none", x -> x.copy(Busy.ROW, 0, Busy.EMPTY_ROW, 0, 1));
    }

    private static void copyOrder() {
        DUE.promise("6 copy, BAD, then SIZE, then NOTHING, then BEYOND");
        BUSY.bad("BAD ahead of SIZE", x -> x.copy(6, 0, Busy.ROW, 0, -1));
        BUSY.bad("BAD ahead of SIZE", x -> x.copy(Busy.ROW, 0, -1, 0, -1));
        BUSY.bad("BAD ahead of NOTHING", x -> x.copy(Busy.NO_ROW, 0, 6, 0, 1));
        BUSY.bad("BAD ahead of NOTHING", x -> x.copy(6, 0, Busy.NO_ROW, 0, 1));
        BUSY.bad("BAD ahead of BEYOND", x -> x.copy(6, -1, Busy.ROW, 9, 9));
        BUSY.size("SIZE ahead of NOTHING", x -> x.copy(Busy.NO_ROW, 0, Busy.ROW, 0, -1));
        BUSY.size("SIZE ahead of NOTHING", x -> x.copy(Busy.ROW, 0, Busy.NO_ROW, 0, -1));
        BUSY.size("SIZE ahead of BEYOND", x -> x.copy(Busy.ROW, -1, Busy.ROW, 9, -1));
        BUSY.nothing("NOTHING ahead of BEYOND", x -> x.copy(Busy.NO_ROW, -1, Busy.ROW, 0, 1));
        BUSY.nothing("NOTHING ahead of BEYOND", x -> x.copy(Busy.ROW, 0, Busy.NO_ROW, 9, 99));
        BUSY.nothing("NOTHING of the other ahead of BEYOND of the first", x -> x.copy(Busy.ROW, 9, Busy.NO_ROW, 0, 1));
    }

    private static void copyNone() {
        DUE.promise("6 copy, none");
        DryBargains x = new DryBargains();
        fill(x, 0, 1, 2, 3);
        fill(x, 1, 4, 5);
        x.row(2, 0);
        DUE.is("from the first", x.copy(0, 0, 1, 0, 0), 1);
        DUE.is("from behind the last", x.copy(0, 3, 1, 2, 0), 1);
        DUE.is("from none to none", x.copy(2, 0, 2, 0, 0), 1);
        DUE.is("to none", x.copy(0, 1, 2, 0, 0), 1);
        rowIs(x, 0, 1, 2, 3);
        rowIs(x, 1, 4, 5);
        rowIs(x, 2);
    }

    private static void copyAll() {
        DUE.promise("6 copy, all 40, and up to the last place");
        DryBargains x = new DryBargains();
        int[] all = new int[40];
        for (int i = 0; i < 40; i++) {
            all[i] = i == 0 ? MIN : i == 39 ? MAX : i;
        }
        fill(x, 0, all);
        x.row(1, 40);
        DUE.is("all", x.copy(0, 0, 1, 0, 40), 1);
        rowIs(x, 1, all);
        fill(x, 2, 1, 2, 3);
        DUE.is("the last of one", x.copy(0, 38, 2, 1, 2), 1);
        rowIs(x, 2, 1, 38, MAX);
        DUE.is("the first of one", x.copy(0, 0, 2, 0, 1), 1);
        rowIs(x, 2, MIN, 38, MAX);
        DUE.is("asked() is none of it", x.asked(), MAX);
    }

    private static void copyAsIfTakenAhead() {
        DUE.promise("6 copy, perhaps itself, as if taken ahead");
        DryBargains x = new DryBargains();
        fill(x, 0, 1, 2, 3, 4);
        DUE.is("by one up", x.copy(0, 0, 0, 1, 3), 1);
        rowIs(x, 0, 1, 1, 2, 3);
        fill(x, 0, 1, 2, 3, 4);
        DUE.is("by one down", x.copy(0, 1, 0, 0, 3), 1);
        rowIs(x, 0, 2, 3, 4, 4);
        fill(x, 0, 1, 2, 3, 4);
        DUE.is("upon itself", x.copy(0, 0, 0, 0, 4), 1);
        rowIs(x, 0, 1, 2, 3, 4);
        DUE.is("side by side", x.copy(0, 0, 0, 2, 2), 1);
        rowIs(x, 0, 1, 2, 1, 2);
    }

    // ---- 7 mean

    private static void meanRefused() {
        DUE.promise("7 mean, BAD; NOTHING; NOUGHT");
        for (int r : Refused.outside(0, 5)) {
            BUSY.bad("mean(" + r + ")", x -> x.mean(r));
        }
        BUSY.nothing("missing", x -> x.mean(Busy.NO_ROW));
        BUSY.nought("of none", x -> x.mean(Busy.EMPTY_ROW));
        for (int r : new int[] {0, 5}) {
            meanIs(r, 4, 4);
        }
    }

    private static void meanIs(int r, int due, int... ints) {
        DryBargains x = new DryBargains();
        fill(x, r, ints);
        DUE.is("mean(" + r + ")", x.mean(r), 1);
        DUE.is("mean(" + r + "), asked()", x.asked(), due);
    }

    private static void meanCut() {
        DUE.promise("7 mean, cut");
        meanIs(1, 0, 0);
        meanIs(1, 0, 0, 1);
        meanIs(1, 0, 0, -1);
        meanIs(1, 1, 1, 2);
        meanIs(1, -1, -1, -2);
        meanIs(1, 2, 2, 2, 4);
        meanIs(1, -2, -2, -2, -4);
        meanIs(1, 0, 5, -5);
    }

    private static void meanOfGreatInts() {
        DUE.promise("7 mean, the least and the greatest ints");
        meanIs(1, MAX, MAX);
        meanIs(1, MIN, MIN);
        meanIs(1, 0, MIN, MAX);
        meanIs(1, MAX - 1, MAX, MAX - 1);
        int[] most = new int[40];
        java.util.Arrays.fill(most, MAX);
        meanIs(1, MAX, most);
        most[7] = MAX - 1;
        meanIs(1, MAX - 1, most);
        java.util.Arrays.fill(most, MIN);
        meanIs(1, MIN, most);
        most[39] = MIN + 1;
        meanIs(1, MIN + 1, most);
    }

    // ---- 8 text

    private static void textNumbers() {
        DUE.promise("8 text, TEXTS 0 .. 3");
        for (int t : Refused.outside(0, 3)) {
            BUSY.bad("text(" + t + ", 1)", x -> x.text(t, 1));
        }
        for (int t : new int[] {0, 3}) {
            DryBargains x = new DryBargains();
            DUE.is("text(" + t + ", 1)", x.text(t, 1), 1);
            DUE.is("one is there", x.count(7), 1);
            DUE.is("a blank", x.put(t, 0, 1), 1032);
        }
    }

    private static void textSizes() {
        DUE.promise("8 text, of 0 to 100 bytes; BAD: also n above 100; SIZE: below 0");
        DryBargains x = new DryBargains();
        DUE.is("text(2, 0)", x.text(2, 0), 0);
        DUE.is("it is there", x.count(7), 1);
        DUE.is("it is of none", x.put(2, 0, 1), Refused.FINDING);
        DUE.is("text(2, 100)", x.text(2, 100), 100);
        for (int i = 0; i < 100; i++) {
            DUE.is("blank " + i, x.put(2, i, i), 1032);
        }
        DUE.is("no more", x.put(2, 100, 1), Refused.FINDING);
        for (int n : new int[] {101, MAX}) {
            BUSY.bad("text(0, " + n + ")", y -> y.text(Busy.WALL_TEXT, n));
            BUSY.bad("text(2, " + n + ")", y -> y.text(Busy.NO_TEXT, n));
        }
        for (int n : new int[] {-1, MIN}) {
            BUSY.size("text(0, " + n + ")", y -> y.text(Busy.WALL_TEXT, n));
            BUSY.size("text(2, " + n + ")", y -> y.text(Busy.NO_TEXT, n));
        }
    }

    private static void textOrder() {
        DUE.promise("8 text, BAD ahead of SIZE");
        BUSY.bad("text(-1, -1)", x -> x.text(-1, -1));
        BUSY.bad("text(4, -1)", x -> x.text(4, -1));
        BUSY.bad("text(4, 101)", x -> x.text(4, 101));
    }

    private static void textAnew() {
        DUE.promise("8 text, n blanks");
        DryBargains x = new DryBargains();
        Due.write(x, 1, "w5");
        Due.write(x, 2, "abc");
        DUE.is("shorter", x.text(2, 1), 1);
        DUE.is("longer", x.text(2, 3), 3);
        for (int i = 0; i < 3; i++) {
            DUE.is("blank " + i, x.put(2, i, 'x'), 1032);
        }
        DUE.is("as long", x.text(2, 3), 3);
        DUE.is("blank again", x.put(2, 2, 'x'), 1032);
        DUE.is("the other stays", x.put(1, 0, 0), 1000 + 'w');
    }

    // ---- 9 put

    private static void putNumbers() {
        DUE.promise("9 put, TEXTS 0 .. 3");
        for (int t : Refused.outside(0, 3)) {
            BUSY.bad("put(" + t + ", 0, 1)", x -> x.put(t, 0, 1));
        }
        BUSY.nothing("a TEXT that is missing", x -> x.put(Busy.NO_TEXT, 0, 1));
    }

    private static void putPlaces() {
        DUE.promise("9 put, BEYOND");
        for (int i : Refused.outside(0, 2)) {
            BUSY.beyond("put(1, " + i + ", 1)", x -> x.put(Busy.FAULTY_TEXT, i, 1));
        }
        for (int i : new int[] {MIN, -1, 0, 1, MAX}) {
            BUSY.beyond("put(3, " + i + ", 1) of none", x -> x.put(Busy.EMPTY_TEXT, i, 1));
        }
        DryBargains x = new DryBargains();
        x.text(0, 100);
        DUE.is("the first", x.put(0, 0, 1), 1032);
        DUE.is("the last", x.put(0, 99, 2), 1032);
        DUE.is("the first was", x.put(0, 0, 3), 1001);
        DUE.is("the last was", x.put(0, 99, 3), 1002);
        DUE.is("the one ahead of it is a blank", x.put(0, 98, 3), 1032);
        new Refused(DUE, y -> y.text(0, 100)).beyond("the one behind the last", y -> y.put(0, 100, 1));
    }

    private static void putOrder() {
        DUE.promise("9 put, BAD, then NOTHING, then BEYOND");
        BUSY.bad("BAD ahead of BEYOND", x -> x.put(4, -1, 1));
        BUSY.nothing("NOTHING ahead of BEYOND", x -> x.put(Busy.NO_TEXT, 100, 1));
        BUSY.nothing("NOTHING ahead of BEYOND", x -> x.put(Busy.NO_TEXT, -1, 1));
    }

    private static void putCut() {
        DUE.promise("9 put, cut to a byte: what it was, and 1000 more");
        DryBargains x = new DryBargains();
        x.text(0, 1);
        int was = 1032;
        int[][] put = {{127, 1127}, {128, 872}, {-128, 872}, {-129, 1127}, {255, 999}, {-1, 999}, {256, 1000}, {0, 1000},
            {-256, 1000}, {257, 1001}, {MAX, 999}, {MIN, 1000}, {MAX - 128, 1127}, {MIN + 128, 872}, {1, 1001}};
        for (int[] p : put) {
            DUE.is("put(0, 0, " + p[0] + ") tells the one ahead", x.put(0, 0, p[0]), was);
            was = p[1];
        }
        DUE.is("the last", x.put(0, 0, 0), was);
        DUE.is("asked() is none of it", x.asked(), 0);
    }
}
