/** The boundary cases of promises 12 to 18: what a brick tells, yes, heirs, what hangs, wedges, the vine. */
public final class BrickEdgesTest {
    private static final int NONE = -9;
    private static final String KINDS = "w9 b00AB c02BC f04CD t06DEF r10EF a13FA";
    private static final String FOURTEEN = "w9b00ABb02ABb04ABb06ABb10ABb12ABb14ABb16ABb20ABb22ABb24ABb26ABb30ABb32AB";
    private static final Due DUE = new Due("BrickEdgesTest");
    private static final Refused BUSY = new Refused(DUE, Busy::make);
    private static final Refused NEW = new Refused(DUE, x -> { });

    public static void main(String[] args) {
        brickRefused();
        brickFirstAndLast();
        brickPlaces();
        brickMarks();
        brickThatIsOut();
        brickHelped();
        brickHangs();
        markRefused();
        markUnlike();
        markOrder();
        markCracked();
        markFalse();
        markTriple();
        markBridge();
        markArch();
        markArchTouched();
        markTellsNothingByAsked();
        yesRefused();
        yesTellsWhatItWas();
        heirRefused();
        heirCounts();
        heirOfKeptWalls();
        hangRefused();
        hangTellsOnWhich();
        hangOut();
        wedgeRefused();
        wedgeOrder();
        wedgeFull();
        wedgeAwayWhatWouldNotStand();
        wedgeAwayWhatWould();
        wedgeIsLost();
        vineRefused();
        vineCounts();
        DUE.end();
    }

    private static void tells(DryBargains x, int b, int what, int due) {
        DUE.is("brick(" + b + ", " + what + ")", x.brick(b, what), 1);
        DUE.is("brick(" + b + ", " + what + "), asked()", x.asked(), due);
    }

    private static DryBargains agreed(String wall) {
        DryBargains x = Due.wall(wall);
        Due.allSayYes(x);
        return x;
    }

    private static Refused by(String wall, java.util.function.Consumer<DryBargains> steps) {
        return new Refused(DUE, x -> {
            Due.write(x, 0, wall);
            x.wall(0);
            Due.allSayYes(x);
            steps.accept(x);
        });
    }

    // ---- 12 brick

    private static void brickRefused() {
        DUE.promise("12 brick, BAD");
        for (int b : Refused.outside(0, Busy.BRICKS - 1)) {
            BUSY.bad("brick(" + b + ", 0)", x -> x.brick(b, 0));
        }
        for (int what : Refused.outside(0, 8)) {
            BUSY.bad("brick(0, " + what + ")", x -> x.brick(0, what));
        }
        NEW.bad("no WALL", x -> x.brick(0, 0));
        by("w9", x -> { }).bad("a WALL of none", x -> x.brick(0, 0));
        by(FOURTEEN, x -> { }).bad("brick(14, 0)", x -> x.brick(14, 0));
    }

    private static void brickFirstAndLast() {
        DUE.promise("12 brick, the first and the last one");
        DryBargains x = Due.wall(FOURTEEN);
        int[] first = {0, 0, 0, 0, 1, NONE, 1, 0, NONE};
        int[] last = {0, 3, 2, 0, 1, NONE, 1, 0, NONE};
        for (int what = 0; what <= 8; what++) {
            tells(x, 0, what, first[what]);
            tells(x, 13, what, last[what]);
        }
    }

    private static void brickPlaces() {
        DUE.promise("12 brick, 0 its KIND, 1 COURSE, 2 first HALF");
        DryBargains x = Due.wall("w9 b00AB c57AB f20AB t17ABC r36AB a40AB");
        int[][] due = {{0, 0, 0}, {1, 5, 7}, {2, 2, 0}, {3, 1, 7}, {4, 3, 6}, {5, 4, 0}};
        for (int b = 0; b < 6; b++) {
            for (int what = 0; what < 3; what++) {
                tells(x, b, what, due[b][what]);
            }
        }
    }

    private static void brickMarks() {
        DUE.promise("12 brick, 3 its first MARK, 4 its second one, 5 its third one (NONE)");
        DryBargains x = Due.wall("w9 b00AF c02FA f04CD t06FAE r10EF a13BA t16ABF");
        int[][] due = {{0, 5, NONE}, {5, 0, NONE}, {2, 3, NONE}, {5, 0, 4}, {4, 5, NONE}, {1, 0, NONE}, {0, 1, 5}};
        for (int b = 0; b < 7; b++) {
            for (int i = 0; i < 3; i++) {
                tells(x, b, 3 + i, due[b][i]);
            }
        }
    }

    private static void brickThatIsOut() {
        DUE.promise("12 brick, 6 whether it is IN (1, 0)");
        DryBargains x = new DryBargains();
        Busy.make(x);
        int[] due = {5, 2, 5, 2, 4, NONE, 0, 0, NONE};
        for (int what = 0; what <= 8; what++) {
            tells(x, Busy.OUT, what, due[what]);
        }
        tells(x, Busy.NOT_STANDING, 6, 1);
        x.undo();
        x.undo();
        tells(x, Busy.OUT, 6, 1);
        DryBargains fallen = Due.wall("w9 b00AB b11AB");
        fallen.frost(1, 12);
        tells(fallen, 0, 6, 1);
        tells(fallen, 1, 6, 0);
    }

    private static void brickHelped() {
        DUE.promise("12 brick, 7 a WEDGE (1), the VINE (2), both (3), neither (0)");
        DryBargains x = agreed(FOURTEEN);
        tells(x, 13, 7, 0);
        x.wedge(13, 1);
        tells(x, 13, 7, 1);
        x.vine(13);
        tells(x, 13, 7, 3);
        x.wedge(13, 0);
        tells(x, 13, 7, 2);
        tells(x, 12, 7, 0);
        tells(x, 0, 7, 0);
        x.go(1);
        tells(x, 9, 7, 2);
    }

    private static void brickHangs() {
        DUE.promise("12 brick, 8 on which one it HANGS (NONE)");
        DryBargains x = agreed(FOURTEEN);
        tells(x, 13, 8, NONE);
        x.hang(13, 0);
        tells(x, 13, 8, 0);
        x.hang(0, 13);
        tells(x, 0, 8, 13);
        x.hang(13, NONE);
        tells(x, 13, 8, NONE);
        tells(x, 0, 8, 13);
        x.draw(13);
        tells(x, 0, 8, 13);
    }

    // ---- 13 mark

    private static void markRefused() {
        DUE.promise("13 mark, BAD: also KIND 0; NOTHING: it is OUT");
        for (int kind : new int[] {Integer.MIN_VALUE, -1, 0, 6, Integer.MAX_VALUE}) {
            for (int b = 0; b < Busy.BRICKS; b++) {
                int which = b;
                BUSY.bad("mark(" + b + ", " + kind + ")", x -> x.mark(which, kind));
            }
        }
        for (int b : Refused.outside(0, Busy.BRICKS - 1)) {
            BUSY.bad("mark(" + b + ", 1)", x -> x.mark(b, 1));
        }
        for (int kind = 1; kind <= 5; kind++) {
            int which = kind;
            BUSY.nothing("OUT", x -> x.mark(Busy.OUT, which));
            BUSY.nothing("OUT", x -> x.mark(11, which));
        }
        NEW.bad("no WALL", x -> x.mark(0, 1));
    }

    private static void markUnlike() {
        DUE.promise("13 mark, UNLIKE");
        Refused kinds = by(KINDS, x -> { });
        for (int b = 0; b < 6; b++) {
            for (int kind = 1; kind <= 5; kind++) {
                int one = b;
                int other = kind;
                if (b == kind || b == 5 && kind == 4) {
                    DUE.is("it is of KIND " + kind, Due.wall(KINDS).mark(b, kind) >= 0 ? 1 : 0, 1);
                } else {
                    kinds.unlike("mark(" + b + ", " + kind + ")", x -> x.mark(one, other));
                }
            }
        }
        Refused frozen = by("w9 b00AB", x -> x.frost(1, 12));
        frozen.unlike("CRACKED by frost it is no FALSE one", x -> x.mark(0, 2));
        DryBargains x = Due.wall("w9 b00AB");
        x.frost(1, 12);
        DUE.is("but a CRACKED one", x.mark(0, 1), 2);
    }

    private static void markOrder() {
        DUE.promise("13 mark, NOTHING ahead of UNLIKE, BAD ahead of both");
        Refused out = by(KINDS, x -> {
            x.draw(5);
            x.draw(4);
            x.draw(0);
        });
        for (int kind = 1; kind <= 5; kind++) {
            int which = kind;
            out.nothing("an ARCH that is OUT", x -> x.mark(5, which));
            out.nothing("a BRIDGE that is OUT", x -> x.mark(4, which));
            out.nothing("one of KIND 0 that is OUT", x -> x.mark(0, which));
        }
        out.bad("KIND 0 of one that is OUT", x -> x.mark(5, 0));
        out.bad("KIND 6 of one that is OUT", x -> x.mark(5, 6));
        out.bad("KIND 0 of one that is IN", x -> x.mark(1, 0));
        out.bad("no BRICK", x -> x.mark(6, 2));
    }

    private static void markIs(String wall, int b, int kind, int due) {
        DUE.is("mark(" + b + ", " + kind + ") in " + wall, Due.wall(wall).mark(b, kind), due);
    }

    private static void markCracked() {
        DUE.promise("13 mark, a CRACKED one with how many HALVES it RESTS now");
        markIs("w9 c00AB", 0, 1, 2);
        markIs("w2 c00AB", 0, 1, 2);
        markIs("w9 c07AB", 0, 1, 2);
        markIs("w9 c10AB", 0, 1, 0);
        markIs("w9 c11AB b00CD", 0, 1, 1);
        markIs("w9 c11AB b02CD", 0, 1, 1);
        markIs("w9 c11AB b01CD", 0, 1, 2);
        markIs("w9 c11AB b00CD b02CD", 0, 1, 2);
        markIs("w9 c11AB b03CD", 0, 1, 0);
        markIs("w9 c21AB b11CD", 0, 1, 0);
        DryBargains x = agreed("w9 c11AB b00CD b02CD");
        x.wedge(0, 1);
        x.draw(1);
        DUE.is("one is OUT now", x.mark(0, 1), 1);
        x.draw(2);
        DUE.is("both are OUT now", x.mark(0, 1), 0);
        x.undo();
        DUE.is("one is back", x.mark(0, 1), 1);
        DryBargains y = Due.wall("w9 c21AB b11CD");
        y.wedge(1, 1);
        DUE.is("beneath stands by a WEDGE", y.mark(0, 1), 2);
        DryBargains z = Due.wall("w9 c21AB b11CD");
        z.vine(0);
        DUE.is("the VINE on it is no HALF beneath", z.mark(0, 1), 0);
    }

    private static void markFalse() {
        DUE.promise("13 mark, a FALSE one whose MARK is none");
        markIs("w9 f00AF", 0, 2, 5);
        markIs("w9 f00FA", 0, 2, 0);
        DryBargains x = Due.wall("w9 f00AF");
        x.heir(0, 5);
        DUE.is("still the second", x.mark(0, 2), 5);
        x.heir(5, 2);
        DUE.is("the heir's", x.mark(0, 2), 2);
    }

    private static void markTriple() {
        DUE.promise("13 mark, a TRIPLE one the greatest of its MARKS");
        markIs("w9 t00FAB", 0, 3, 5);
        markIs("w9 t00AFB", 0, 3, 5);
        markIs("w9 t00ABF", 0, 3, 5);
        markIs("w9 t00CAB", 0, 3, 2);
        markIs("w9 t00ACB", 0, 3, 2);
        markIs("w9 t00ABC", 0, 3, 2);
        DryBargains x = Due.wall("w9 t00ABC");
        x.heir(2, 0);
        DUE.is("1", x.mark(0, 3), 1);
        x.heir(1, 0);
        DUE.is("all are 0", x.mark(0, 3), 0);
        x.heir(0, 5);
        DUE.is("all are 5", x.mark(0, 3), 5);
    }

    private static void markBridge() {
        DUE.promise("13 mark, a BRIDGE (ARCH, too) whether it RESTS with its middle HALF (1, 0)");
        for (char kind : "ra".toCharArray()) {
            markIs("w9 " + kind + "00AB", 0, 4, 1);
            markIs("w3 " + kind + "00AB", 0, 4, 1);
            markIs("w9 " + kind + "06AB", 0, 4, 1);
            markIs("w9 " + kind + "13AB", 0, 4, 0);
            markIs("w9 " + kind + "13AB b02CD b05CD", 0, 4, 0);
            markIs("w9 " + kind + "13AB b03CD", 0, 4, 1);
            markIs("w9 " + kind + "13AB b04CD", 0, 4, 1);
            markIs("w9 " + kind + "13AB r03CD", 0, 4, 1);
            markIs("w9 " + kind + "13AB r02CD", 0, 4, 1);
            markIs("w9 " + kind + "23AB r13CD", 0, 4, 0);
            DryBargains x = agreed("w9 " + kind + "13AB b04CD");
            x.draw(1);
            DUE.is("it is OUT now", x.mark(0, 4), 0);
        }
    }

    private static void markArch() {
        DUE.promise("13 mark, an ARCH how many BRICKS touch it on both sides and stand (also of KIND 5)");
        markIs("w9 a03AB", 0, 5, 0);
        markIs("w9 a03AB b01CD", 0, 5, 1);
        markIs("w9 a03AB b06CD", 0, 5, 1);
        markIs("w9 a03AB b01CD b06CD", 0, 5, 2);
        markIs("w9 a03AB a00CD", 0, 5, 1);
        markIs("w9 a03AB a00CD a06CD", 0, 5, 2);
        markIs("w9 a03AB r00CD t06CDE", 0, 5, 2);
        markIs("w9 a13AB a10CD b16CD", 0, 5, 0);
        DryBargains x = Due.wall("w9 a13AB a10CD b16CD");
        x.wedge(1, 1);
        DUE.is("of KIND 5, by a WEDGE", x.mark(0, 5), 1);
        x.vine(2);
        DUE.is("by the VINE", x.mark(0, 5), 2);
        DryBargains y = agreed("w9 a03AB b01CD b06CD");
        y.draw(1);
        DUE.is("left of it one is OUT", y.mark(0, 5), 1);
        y.draw(2);
        DUE.is("right of it, too", y.mark(0, 5), 0);
    }

    private static void markArchTouched() {
        DUE.promise("13 mark, what touches an ARCH in its COURSE");
        markIs("w9 a03AB b00CD b07CD", 0, 5, 0);
        markIs("w9 a00AB b03CD", 0, 5, 1);
        markIs("w9 a06AB b04CD", 0, 5, 1);
        markIs("w3 a00AB", 0, 5, 0);
        markIs("w9 a13AB b01CD b06CD b03CD", 0, 5, 0);
        markIs("w9 a13AB b21CD b26CD b03CD", 0, 5, 0);
        markIs("w9 a50AB", 0, 5, 0);
    }

    private static void markTellsNothingByAsked() {
        DUE.promise("13 mark, asked() is none of it");
        DryBargains x = Due.wall(KINDS);
        x.brick(0, 4);
        for (int kind = 1; kind <= 5; kind++) {
            x.mark(kind, kind);
            DUE.is("asked() stays", x.asked(), 1);
        }
    }

    // ---- 14 yes

    private static void yesRefused() {
        DUE.promise("14 yes, PEOPLE 0 .. 5; YES (1), or no more (0)");
        for (int p : Refused.outside(0, 5)) {
            BUSY.bad("yes(" + p + ", 0)", x -> x.yes(p, 0));
            BUSY.bad("yes(" + p + ", 1)", x -> x.yes(p, 1));
        }
        for (int is : Refused.outside(0, 1)) {
            for (int p : new int[] {0, 5}) {
                BUSY.bad("yes(" + p + ", " + is + ")", x -> x.yes(p, is));
            }
        }
    }

    private static void yesTellsWhatItWas() {
        DUE.promise("14 yes, what it was (none has, at first)");
        for (int p = 0; p < 6; p++) {
            DryBargains x = Due.wall("w9 b00AB");
            DUE.is("at first", x.yes(p, 1), 0);
            DUE.is("once more", x.yes(p, 1), 1);
            for (int q = 0; q < 6; q++) {
                if (q != p) {
                    DUE.is("no other one's", x.yes(q, 0), 0);
                }
            }
            DUE.is("no more", x.yes(p, 0), 1);
            DUE.is("no more again", x.yes(p, 0), 0);
            Due.allSayYes(x);
            x.yes(p, 0);
            DUE.is("the others' stay", x.asks(0), 3);
            DUE.is("the others' stay", x.asked(), p < 2 ? 1 << p : 0);
        }
    }

    // ---- 15 heir

    private static void heirRefused() {
        DUE.promise("15 heir, BAD: also one and the same");
        for (int p : Refused.outside(0, 5)) {
            BUSY.bad("heir(" + p + ", 0)", x -> x.heir(p, 0));
            BUSY.bad("heir(0, " + p + ")", x -> x.heir(0, p));
        }
        for (int p = 0; p < 6; p++) {
            int one = p;
            BUSY.bad("heir(" + p + ", " + p + ")", x -> x.heir(one, one));
        }
        BUSY.bad("NONE is none of PEOPLE", x -> x.heir(NONE, 0));
    }

    private static void heirCounts() {
        DUE.promise("15 heir, all MARKS of one (also those that are none): how many");
        DryBargains x = agreed("w9 t00ABC f02DA b04AE r06EF");
        DUE.is("draw(2)", x.draw(2), 1);
        DUE.is("first, second, of one that is OUT", x.heir(0, 1), 3);
        tells(x, 0, 3, 1);
        tells(x, 0, 4, 1);
        tells(x, 1, 4, 1);
        tells(x, 2, 3, 1);
        DUE.is("none is left", x.heir(0, 1), 0);
        DUE.is("one twice", x.heir(1, 2), 4);
        DUE.is("one three times", x.heir(2, 5), 5);
        tells(x, 0, 3, 5);
        tells(x, 0, 4, 5);
        tells(x, 0, 5, 5);
        DUE.is("the greatest to the least", x.heir(5, 0), 6);
        tells(x, 3, 4, 0);
        tells(x, 3, 5, NONE);
        DUE.is("no WALL", new DryBargains().heir(0, 5), 0);
        DUE.is("asked() is none of it", x.asked(), NONE);
    }

    private static void heirOfKeptWalls() {
        DUE.promise("15 heir, a kept WALL is as it was");
        DryBargains x = agreed("w9 b00AB");
        x.keep(0);
        x.heir(0, 5);
        x.on(0);
        tells(x, 0, 3, 0);
    }

    // ---- 16 hang

    private static void hangRefused() {
        DUE.promise("16 hang, BAD: also on itself");
        for (int b : Refused.outside(0, Busy.BRICKS - 1)) {
            BUSY.bad("hang(" + b + ", 0)", x -> x.hang(b, 0));
            BUSY.bad("hang(" + b + ", NONE)", x -> x.hang(b, NONE));
            BUSY.bad("hang(0, " + b + ")", x -> x.hang(0, b));
        }
        for (int on : new int[] {-8, -10, -1}) {
            BUSY.bad("hang(0, " + on + ")", x -> x.hang(0, on));
        }
        for (int b = 0; b < Busy.BRICKS; b++) {
            int one = b;
            BUSY.bad("on itself", x -> x.hang(one, one));
        }
        BUSY.bad("hang(NONE, NONE)", x -> x.hang(NONE, NONE));
        NEW.bad("no WALL", x -> x.hang(0, NONE));
    }

    private static void hangTellsOnWhich() {
        DUE.promise("16 hang, on which it did (NONE: on none any more)");
        DryBargains x = Due.wall(FOURTEEN);
        DUE.is("on none at first", x.hang(0, 13), NONE);
        DUE.is("on the last one", x.hang(0, 1), 13);
        DUE.is("on another one", x.hang(0, NONE), 1);
        DUE.is("on none", x.hang(0, NONE), NONE);
        DUE.is("the last one", x.hang(13, 0), NONE);
        DUE.is("on the first one", x.hang(13, 0), 0);
        DUE.is("the other does not", x.hang(0, 13), NONE);
    }

    private static void hangOut() {
        DUE.promise("16 hang, one that is OUT and on one that is OUT");
        DryBargains x = agreed("w9 b00AB b02CD b04EF");
        x.draw(1);
        DUE.is("one that is OUT", x.hang(1, 0), NONE);
        DUE.is("on one that is OUT", x.hang(2, 1), NONE);
        DUE.is("nobody is asked then", x.asks(2), 0);
        DUE.is("on none any more", x.hang(2, NONE), 1);
        DUE.is("both are asked then", x.asks(2), Due.bits(4, 5));
    }

    // ---- 17 wedge

    private static void wedgeRefused() {
        DUE.promise("17 wedge, BAD; NOTHING: it is OUT; STATE: it is so already");
        for (int b : Refused.outside(0, Busy.BRICKS - 1)) {
            BUSY.bad("wedge(" + b + ", 1)", x -> x.wedge(b, 1));
            BUSY.bad("wedge(" + b + ", 0)", x -> x.wedge(b, 0));
        }
        for (int is : Refused.outside(0, 1)) {
            BUSY.bad("wedge(0, " + is + ")", x -> x.wedge(0, is));
        }
        BUSY.nothing("under one that is OUT", x -> x.wedge(Busy.OUT, 1));
        BUSY.state("it has one", x -> x.wedge(Busy.WEDGED, 1));
        BUSY.state("it has none", x -> x.wedge(0, 0));
        BUSY.state("it has none, though the VINE", x -> x.wedge(Busy.OVERGROWN, 0));
        NEW.bad("no WALL", x -> x.wedge(0, 1));
    }

    private static void wedgeOrder() {
        DUE.promise("17 wedge, BAD, then NOTHING, then STATE, then FULL");
        Refused four = by(FOURTEEN, x -> {
            for (int b = 0; b < 4; b++) {
                x.wedge(b, 1);
            }
            x.draw(13);
        });
        four.bad("BAD ahead of NOTHING", x -> x.wedge(13, 2));
        four.bad("BAD ahead of STATE", x -> x.wedge(0, 2));
        four.bad("BAD ahead of FULL", x -> x.wedge(14, 1));
        four.nothing("NOTHING ahead of STATE: one that is OUT has none", x -> x.wedge(13, 0));
        four.nothing("NOTHING ahead of FULL", x -> x.wedge(13, 1));
        four.state("STATE ahead of FULL", x -> x.wedge(3, 1));
        four.state("it has none", x -> x.wedge(4, 0));
        four.full("a fifth", x -> x.wedge(4, 1));
    }

    private static void wedgeFull() {
        DUE.promise("17 wedge, FULL: 4 (under)");
        DryBargains x = agreed(FOURTEEN);
        int[] under = {0, 13, 5, 9};
        for (int i = 0; i < 4; i++) {
            DUE.is("one more", x.wedge(under[i], 1), i + 1);
        }
        DUE.is("WEDGES", x.count(3), 4);
        DUE.is("a fifth", x.wedge(1, 1), Refused.FULL);
        DUE.is("away, though there are 4", x.wedge(13, 0), 3);
        DUE.is("the fourth again", x.wedge(1, 1), 4);
        DUE.is("a fifth", x.wedge(13, 1), Refused.FULL);
        for (int b : new int[] {0, 1, 5}) {
            x.wedge(b, 0);
        }
        DUE.is("the last one away", x.wedge(9, 0), 0);
    }

    private static void wedgeAwayWhatWouldNotStand() {
        DUE.promise("17 wedge, STATE: one that stands would not any more (away)");
        by("w9 b20AB", x -> x.wedge(0, 1)).state("it itself", x -> x.wedge(0, 0));
        by("w9 c11AB b00CD", x -> x.wedge(0, 1)).state("a CRACKED one with one HALF", x -> x.wedge(0, 0));
        by("w9 r10AB b00CD", x -> x.wedge(0, 1)).state("a BRIDGE with one end", x -> x.wedge(0, 0));
        by("w9 b13AB a10CD", x -> x.wedge(0, 1)).state("none beneath", x -> x.wedge(0, 0));
        by("w9 a12AB b10CD b15CD b00CD b05CD", x -> {
            x.wedge(1, 1);
            x.draw(3);
        }).state("it and the ARCH beside it", x -> x.wedge(1, 0));
        by("w9 b10AB b20CD b00EF", x -> {
            x.wedge(0, 1);
            x.draw(2);
        }).state("it and one upon it", x -> x.wedge(0, 0));
    }

    private static void wedgeAwayWhatWould() {
        DUE.promise("17 wedge, away where all that stand still do");
        DryBargains foot = agreed("w9 b00AB b10CD");
        foot.wedge(0, 1);
        DUE.is("at the foot", foot.wedge(0, 0), 0);
        foot.wedge(1, 1);
        DUE.is("one that RESTS", foot.wedge(1, 0), 0);
        DryBargains cracked = agreed("w9 c11AB b01CD");
        cracked.wedge(0, 1);
        DUE.is("a CRACKED one with all", cracked.wedge(0, 0), 0);
        DryBargains arch = agreed("w9 a12AB b10CD b15CD b00CD b05CD");
        arch.wedge(0, 1);
        DUE.is("an ARCH between two", arch.wedge(0, 0), 0);
        DryBargains vine = agreed("w9 b20AB b50CD");
        vine.wedge(0, 1);
        vine.vine(0);
        DUE.is("by the VINE, and 1 did not stand ahead", vine.wedge(0, 0), 0);
        DryBargains two = agreed("w9 b10AB b20CD");
        two.wedge(0, 1);
        two.wedge(1, 1);
        DUE.is("one of two", two.wedge(1, 0), 1);
    }

    private static void wedgeIsLost() {
        DUE.promise("a BRICK that goes OUT loses its WEDGE");
        DryBargains x = agreed("w9 b00AB b10CD b20EF");
        x.wedge(2, 1);
        x.wedge(1, 1);
        DUE.is("draw(2)", x.draw(2), 1);
        DUE.is("one is left", x.count(3), 1);
        tells(x, 2, 7, 0);
        tells(x, 1, 7, 1);
        DUE.is("undo()", x.undo(), 2);
        DUE.is("it comes back without", x.count(3), 1);
        tells(x, 2, 7, 0);
    }

    // ---- 18 vine

    private static void vineRefused() {
        DUE.promise("18 vine, BAD; NOTHING: it is OUT; STATE: it has it");
        for (int b : Refused.outside(0, Busy.BRICKS - 1)) {
            BUSY.bad("vine(" + b + ")", x -> x.vine(b));
        }
        BUSY.nothing("OUT", x -> x.vine(Busy.OUT));
        BUSY.state("planted", x -> x.vine(Busy.OVERGROWN));
        BUSY.state("taken by it in a YEAR", x -> x.vine(3));
        NEW.bad("no WALL", x -> x.vine(0));
    }

    private static void vineCounts() {
        DUE.promise("18 vine, besides others: how many have it");
        DryBargains x = agreed(FOURTEEN);
        for (int b = 13; b >= 0; b--) {
            DUE.is("vine(" + b + ")", x.vine(b), 14 - b);
        }
        DUE.is("all", x.count(4), 14);
        DUE.is("none more", x.vine(0), Refused.STATE);
        DryBargains y = agreed("w9 b50AB");
        DUE.is("one that does not stand", y.vine(0), 1);
        DUE.is("it does now", y.stands(), 1);
    }
}
