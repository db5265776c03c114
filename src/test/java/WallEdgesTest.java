/** The boundary cases of a wall's text: promises 10 and 11, and what 'Terms' says of a FAULT. */
public final class WallEdgesTest {
    private static final int NONE = -9;
    private static final String FOURTEEN = "w9b00ABb02ABb04ABb06ABb10ABb12ABb14ABb16ABb20ABb22ABb24ABb26ABb30ABb32AB";
    private static final Due DUE = new Due("WallEdgesTest");
    private static final Refused BUSY = new Refused(DUE, Busy::make);

    public static void main(String[] args) {
        everySignOfAnItem();
        everySignOfATriple();
        endsTooEarly();
        endsWhereALongerOneWas();
        noW();
        blanksAround();
        blanksWithin();
        onlyOneW();
        oneFigureEach();
        marksUnlike();
        marksAsManyAsDue();
        withinTheWall();
        placeTaken();
        placeTakenByAnyOne();
        firstFaultIsTold();
        fifteenth();
        longestText();
        notStandingIsNoFault();
        faultRefused();
        faultChangesNothing();
        wallRefused();
        wallByEachFault();
        wallCounts();
        wallAnew();
        wallLeavesTheRest();
        wallByTextAsItIs();
        DUE.end();
    }

    private static int faultOf(String text) {
        DryBargains x = new DryBargains();
        Due.write(x, 0, text);
        return x.fault(0);
    }

    private static void fault(String text, int due) {
        DUE.is("fault of '" + text + "'", faultOf(text), due);
    }

    private static String with(String text, int place, char sign) {
        return text.substring(0, place) + sign + text.substring(place + 1);
    }

    /** Puts each of the 256 bytes at a place of a text: with those that are fine it has no fault, with all else one there. */
    private static void signsAt(String text, int place, String fine) {
        signsAtBut(text, place, fine, "");
    }

    /** As above, but nothing is asked of some others. */
    private static void signsAtBut(String text, int place, String fine, String others) {
        for (int v = -128; v < 128; v++) {
            char sign = (char) (v & 255);
            if ((fine + others).indexOf(sign) < 0) {
                DUE.is("'" + text + "' with " + v + " at " + place, faultOf(with(text, place, sign)), place);
            }
        }
        for (char sign : fine.toCharArray()) {
            fault(with(text, place, sign), NONE);
        }
    }

    // ---- signs

    private static void everySignOfAnItem() {
        DUE.promise("a letter, a figure that is none such: its place");
        // signs that make another item of it stand in the next lines
        signsAtBut("w9 b00AB", 0, "w", " ");
        fault(" 9 b00AB", 1);
        signsAt("w9 b00AB", 1, "23456789");
        signsAtBut("w9 b00AB", 2, " ", "bcftra");
        fault("w9bb00AB", 3);
        fault("w9tb00AB", 3);
        signsAtBut("w9 b00AB", 3, "bcfra", "t ");
        fault("w9 t00AB", 8);
        fault("w9  00AB", 4);
        signsAt("w9 b00AB", 4, "012345");
        signsAt("w9 b00AB", 5, "01234567");
        signsAtBut("w9 b00AB", 6, "ACDEF", "B");
        fault("w9 b00BB", 7);
        signsAt("w9 b00AB", 7, "BCDEF");
    }

    private static void everySignOfATriple() {
        DUE.promise("of t three");
        signsAtBut("w9 t00ABC", 6, "ADEF", "BC");
        fault("w9 t00BBC", 7);
        fault("w9 t00CBC", 8);
        signsAtBut("w9 t00ABC", 7, "BDEF", "C");
        fault("w9 t00ACC", 8);
        signsAt("w9 t00ABC", 8, "CDEF");
        fault("w9 t00ABCD", 9);
    }

    // ---- the end

    private static void endsTooEarly() {
        DUE.promise("the TEXT's size, if its end comes too early");
        String text = "  w9 t12ABF  r34CD b57EF ";
        int[] fine = {4, 5, 11, 12, 13, 18, 19, 24, 25};
        for (int n = 0; n <= text.length(); n++) {
            boolean ends = false;
            for (int f : fine) {
                ends |= f == n;
            }
            fault(text.substring(0, n), ends ? NONE : n);
        }
    }

    /** What a longer text had there ahead of it is none of a shorter one. */
    private static void endsWhereALongerOneWas() {
        DUE.promise("the TEXT's size, where a longer TEXT was");
        String text = "w9 t12ABF b34CD";
        int[] fine = {2, 3, 9, 10, 15};
        for (int n = 0; n <= text.length(); n++) {
            DryBargains x = new DryBargains();
            Due.write(x, 0, text);
            Due.write(x, 0, text.substring(0, n));
            boolean ends = false;
            for (int f : fine) {
                ends |= f == n;
            }
            DUE.is("'" + text.substring(0, n) + "' behind '" + text + "'", x.fault(0), ends ? NONE : n);
            DUE.is("its WALL", x.wall(0), !ends ? Refused.STATE : n < 9 ? 0 : n < 15 ? 1 : 2);
        }
    }

    private static void noW() {
        DUE.promise("the TEXT's size, if there is no w");
        fault("", 0);
        for (int n = 1; n <= 100; n++) {
            DryBargains x = new DryBargains();
            x.text(0, n);
            DUE.is("fault of " + n + " blanks", x.fault(0), n);
        }
    }

    // ---- blanks

    private static void blanksAround() {
        DUE.promise("blanks ahead, between, behind as many as wanted");
        fault("w9b00ABt02ABCr10AB", NONE);
        fault("w9 b00AB t02ABC r10AB", NONE);
        fault(" w9b00ABt02ABCr10AB ", NONE);
        fault(" ".repeat(30) + "w9" + " ".repeat(30) + "b00AB" + " ".repeat(33), NONE);
        fault(" ".repeat(98) + "w2", NONE);
        fault(" ".repeat(99) + "w", 100);
        fault("w2" + " ".repeat(98), NONE);
        fault(" ".repeat(93) + "w2b00AB", NONE);
        fault(" ".repeat(94) + "w2b00A", 100);
    }

    private static void blanksWithin() {
        DUE.promise("none within items");
        fault("w 9", 1);
        String[] items = {"b00AB", "c00AB", "f00AB", "t00ABC", "r00AB", "a00AB"};
        for (String item : items) {
            for (int i = 1; i < item.length(); i++) {
                fault("w9 " + item.substring(0, i) + " " + item.substring(i), 3 + i);
            }
        }
    }

    // ---- items

    private static void onlyOneW() {
        DUE.promise("the first item is w n, then BRICKS");
        fault("w5w5", 2);
        fault("w5 w5", 3);
        fault("w5b00ABw5", 7);
        fault("b00ABw5", 0);
        fault("b00AB w5", 0);
        fault("  b00AB w5", 2);
    }

    private static void oneFigureEach() {
        DUE.promise("2 .. 9, 0 .. 5, 0 .., one figure");
        for (int n = 0; n <= 9; n++) {
            fault("w" + n, n < 2 ? 1 : NONE);
        }
        fault("w10", 1);
        fault("w22", 2);
        fault("w09", 1);
        for (int course = 0; course <= 9; course++) {
            fault("w9b" + course + "0AB", course > 5 ? 3 : NONE);
        }
        fault("w9b000AB", 5);
        fault("w9b010AB", 5);
    }

    private static void marksUnlike() {
        DUE.promise("two MARKS (unlike letters of PEOPLE; of t three)");
        for (char p = 'A'; p <= 'F'; p++) {
            for (char q = 'A'; q <= 'F'; q++) {
                for (char kind : "bcfra".toCharArray()) {
                    fault("w9" + kind + "00" + p + q, p == q ? 6 : NONE);
                }
                for (char s = 'A'; s <= 'F'; s++) {
                    fault("w9t00" + p + q + s, p == q ? 6 : s == p || s == q ? 7 : NONE);
                }
            }
        }
    }

    private static void marksAsManyAsDue() {
        DUE.promise("two MARKS, of t three: no more, no fewer");
        for (char kind : "bcfra".toCharArray()) {
            fault("w9" + kind + "00ABC", 7);
            fault("w9" + kind + "00A", 6);
            fault("w9" + kind + "00A b", 6);
        }
        fault("w9t00ABCD", 8);
        fault("w9t00AB", 7);
        fault("w9t00AB b00AB", 7);
        fault("w9t00ABb00AB", 7);
    }

    // ---- places

    private static void withinTheWall() {
        DUE.promise("a HALF from which it would not lie within the WALL: its place");
        for (int width = 2; width <= 9; width++) {
            for (int half = 0; half <= 9; half++) {
                for (char kind : "bcfra".toCharArray()) {
                    int size = kind == 'r' || kind == 'a' ? 3 : 2;
                    fault("w" + width + kind + "0" + half + "AB", half + size > width ? 4 : NONE);
                }
                fault("w" + width + "t5" + half + "ABC", half + 2 > width ? 4 : NONE);
            }
        }
    }

    private static void placeTaken() {
        DUE.promise("a HALF of which is another BRICK's, told ahead: its place");
        for (char one : "btra".toCharArray()) {
            for (char other : "cfra".toCharArray()) {
                int size = one == 'r' || one == 'a' ? 3 : 2;
                int otherSize = other == 'r' || other == 'a' ? 3 : 2;
                String first = "w9" + one + "23" + (one == 't' ? "ABC" : "AB");
                for (int half = 0; half + otherSize <= 9; half++) {
                    boolean taken = half < 3 + size && 3 < half + otherSize;
                    fault(first + other + "2" + half + "CD", taken ? first.length() + 2 : NONE);
                    fault(first + other + "1" + half + "CD", NONE);
                    fault(first + other + "3" + half + "CD", NONE);
                }
            }
        }
    }

    private static void placeTakenByAnyOne() {
        DUE.promise("another BRICK's, whichever was told ahead");
        fault("w9 b00AB b02AB b04AB b10AB b00CD", 29);
        fault("w9 b00AB b02AB b04AB b10AB b03CD", 29);
        fault("w9 b00AB b02AB b04AB b10AB b06CD", NONE);
        fault("w9 b06CD b00AB b05AB", 17);
    }

    private static void firstFaultIsTold() {
        DUE.promise("the first place at which it can't go on");
        fault("w1b99GG", 1);
        fault("w9x99GG", 2);
        fault("w9b99GG", 3);
        fault("w9b09GG", 4);
        fault("w9b00GG", 5);
        fault("w9b00ABb00GG", 9);
        fault("w9b00AAb00GG", 6);
        fault("w9 b00AB x", 9);
    }

    private static void fifteenth() {
        DUE.promise("BRICKS 14 at most; a fifteenth BRICK: its letter");
        fault(FOURTEEN, NONE);
        for (char kind : "bcftra".toCharArray()) {
            fault(FOURTEEN + kind, 72);
            fault(FOURTEEN + " " + kind, 73);
            fault(FOURTEEN + kind + "34AB" + (kind == 't' ? "C" : ""), 72);
            fault(FOURTEEN + kind + "99", 72);
        }
        fault(FOURTEEN + "   ", NONE);
        fault(FOURTEEN + "   x", 75);
        fault(FOURTEEN.substring(0, 67) + " a36CD", NONE);
        fault(FOURTEEN.substring(0, 67) + " a37CD", 70);
    }

    private static void longestText() {
        DUE.promise("a TEXT of 100 bytes");
        String behind = " ".repeat(100 - FOURTEEN.length());
        fault(FOURTEEN + behind, NONE);
        fault(behind + FOURTEEN, NONE);
        fault(FOURTEEN + behind.substring(1) + "x", 99);
        fault(FOURTEEN.substring(0, 67) + behind + "b32AB", NONE);
        fault(FOURTEEN.substring(0, 67) + behind + "b32AA", 99);
        fault(FOURTEEN.substring(0, 67) + behind + " b32A", 100);
    }

    private static void notStandingIsNoFault() {
        DUE.promise("BRICKS that do not stand are none of a FAULT");
        fault("w9b50AB", NONE);
        fault("w9b10ABr20ABa30ABc40ABt50ABCf57CD", NONE);
        DryBargains x = Due.wall("w9b50AB");
        DUE.is("it is IN", x.count(1), 1);
        DUE.is("it does not stand", x.stands(), 0);
        DUE.is("it is told", x.asked(), 1);
    }

    // ---- 10 fault

    private static void faultRefused() {
        DUE.promise("10 fault, BAD; NOTHING");
        for (int t : Refused.outside(0, 3)) {
            BUSY.bad("fault(" + t + ")", x -> x.fault(t));
        }
        BUSY.nothing("a TEXT that is missing", x -> x.fault(Busy.NO_TEXT));
        for (int t : new int[] {0, 3}) {
            DryBargains x = new DryBargains();
            Due.write(x, t, "w5b");
            DUE.is("fault(" + t + ")", x.fault(t), 3);
            Due.write(x, t, "w5");
            DUE.is("fault(" + t + ")", x.fault(t), NONE);
        }
    }

    private static void faultChangesNothing() {
        DUE.promise("10 fault, it only tells");
        BUSY.none("no FAULT", x -> x.fault(Busy.WALL_TEXT));
        DryBargains x = new DryBargains();
        DryBargains twin = new DryBargains();
        Busy.make(x);
        Busy.make(twin);
        DUE.is("a FAULT", x.fault(Busy.FAULTY_TEXT), 3);
        DUE.is("none of a FINDING", x.finding(), 0);
        DUE.is("as if not asked", Refused.seen(x).equals(Refused.seen(twin)) ? 1 : 0, 1);
    }

    // ---- 11 wall

    private static void wallRefused() {
        DUE.promise("11 wall, BAD; NOTHING; STATE: a FAULT");
        for (int t : Refused.outside(0, 3)) {
            BUSY.bad("wall(" + t + ")", x -> x.wall(t));
        }
        BUSY.nothing("a TEXT that is missing (STATE behind NOTHING)", x -> x.wall(Busy.NO_TEXT));
        BUSY.state("a TEXT of none", x -> x.wall(Busy.EMPTY_TEXT));
        BUSY.state("its end comes too early", x -> x.wall(Busy.FAULTY_TEXT));
        for (int t : new int[] {0, 3}) {
            DryBargains x = new DryBargains();
            Due.write(x, t, "w5b00AB");
            DUE.is("wall(" + t + ")", x.wall(t), 1);
        }
    }

    private static void wallByEachFault() {
        DUE.promise("11 wall, a FAULT at its last sign, too");
        String[] faults = {" ", "w1", "w9b00ABx", "w9b60AB", "w9b08AB", "w9b00ABb01AB", "w9b00AA", "w9b00A", "w9t00ABA",
            FOURTEEN + "b34AB", FOURTEEN + " x"};
        for (String text : faults) {
            new Refused(DUE, x -> {
                Due.write(x, 0, "w6b00ABb02BC");
                x.wall(0);
                x.keep(1);
                Due.write(x, 1, text);
            }).state("wall of '" + text + "'", x -> x.wall(1));
        }
    }

    private static void wallCounts() {
        DUE.promise("11 wall, how many BRICKS");
        for (int n = 0; n <= 14; n++) {
            DryBargains x = new DryBargains();
            Due.write(x, 0, FOURTEEN.substring(0, 2 + 5 * n));
            DUE.is("wall of " + n, x.wall(0), n);
            DUE.is("BRICKS", x.count(0), n);
            DUE.is("all IN", x.count(1), n);
            DUE.is("all stand", x.stands(), (1 << n) - 1);
            DUE.is("it is a WALL", x.keep(0), n);
        }
    }

    private static void wallAnew() {
        DUE.promise("11 wall, anew: all IN, no YES, WEDGES, VINE, none that HANGS, YEAR 0, no kept WALLS");
        DryBargains x = new DryBargains();
        Busy.make(x);
        x.keep(Busy.NOT_KEPT);
        x.hang(0, 1);
        DUE.is("wall(0)", x.wall(Busy.WALL_TEXT), 11);
        DUE.is("IN", x.count(1), 11);
        DUE.is("WEDGES", x.count(3), 0);
        DUE.is("VINE", x.count(4), 0);
        DUE.is("YEAR", x.count(5), 0);
        for (int b = 0; b < 11; b++) {
            x.brick(b, 6);
            DUE.is(b + " is IN", x.asked(), 1);
            x.brick(b, 7);
            DUE.is(b + " has neither", x.asked(), 0);
            x.brick(b, 8);
            DUE.is(b + " HANGS on none", x.asked(), NONE);
        }
        for (int k = 0; k < 3; k++) {
            DUE.is("on(" + k + ")", x.on(k), Refused.FINDING);
            DUE.is("NOTHING", x.finding(), Refused.NOTHING);
        }
        for (int p = 0; p < 6; p++) {
            DUE.is("YES of " + p, x.yes(p, 0), 0);
        }
        DUE.is("none was DRAWN", x.undo(), Refused.STATE);
    }

    private static void wallLeavesTheRest() {
        DUE.promise("11 wall, ROWS, TEXTS and what was told stay");
        DryBargains x = new DryBargains();
        Busy.make(x);
        x.wall(Busy.WALL_TEXT);
        DUE.is("asked()", x.asked(), -3);
        DUE.is("upper()", x.upper(), 27);
        DUE.is("lower()", x.lower(), 64);
        DUE.is("ROWS", x.count(6), 3);
        DUE.is("TEXTS", x.count(7), 3);
        DUE.is("a ROW's place", x.at(Busy.ROW, 2), 1);
        DUE.is("a ROW's place", x.asked(), Integer.MAX_VALUE);
        DUE.is("a TEXT", x.fault(Busy.FAULTY_TEXT), 3);
    }

    private static void wallByTextAsItIs() {
        DUE.promise("11 wall, by a TEXT as it is when called");
        DryBargains x = Due.wall("w9b00AB");
        x.put(0, 4, '7');
        x.brick(0, 2);
        DUE.is("the WALL does not change", x.asked(), 0);
        DUE.is("wall(0)", x.wall(0), 1);
        x.brick(0, 2);
        DUE.is("anew it does", x.asked(), 7);
        x.text(0, 0);
        DUE.is("the WALL does not change", x.count(0), 1);
        Due.write(x, 0, "w2");
        DUE.is("a WALL of none", x.wall(0), 0);
        DUE.is("no BRICKS of the one ahead", x.brick(0, 0), Refused.BAD);
        DUE.is("none IN", x.count(1), 0);
        Due.write(x, 1, FOURTEEN);
        DUE.is("another TEXT is looked at", x.fault(1), NONE);
        DUE.is("a WALL of none again", x.wall(0), 0);
        DUE.is("none IN", x.count(1), 0);
        DUE.is("all of them", x.wall(1), 14);
        DUE.is("none of them", x.wall(0), 0);
        DUE.is("none IN", x.keep(0), 0);
        DUE.is("how wide it is", x.set(0, 1, 0, 1), Refused.STATE);
    }
}
