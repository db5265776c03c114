import java.util.function.Consumer;

/** The boundary cases of drawing and undoing: what 'Terms' says of it, and promises 23 to 27. */
public final class DrawEdgesTest {
    private static final int NONE = -9;
    private static final String FOURTEEN = "w9b00ABb02ABb04ABb06ABb10ABb12ABb14ABb16ABb20ABb22ABb24ABb26ABb30ABb32AB";
    private static final String STEPS = "w6 b00AB b02BC b04CD b11DE b13EF";
    private static final String VAULT = "w9 b00AB b05CD b10EF a12AB b15BC b22DE";
    private static final Due DUE = new Due("DrawEdgesTest");
    private static final Refused BUSY = new Refused(DUE, Busy::make);
    private static final Refused NEW = new Refused(DUE, x -> { });

    public static void main(String[] args) {
        asksRefused();
        asksByKind();
        asksWhoHasNot();
        asksOfOneThatHangs();
        drawRefused();
        drawByYes();
        drawFalseAndTriple();
        drawHanging();
        drawOvergrown();
        drawWhatBears();
        drawWhatDoesNotStand();
        drawFirstAndLast();
        freeNoneAndAll();
        freeLikeDraw();
        undoNone();
        undoTaken();
        undoWouldNotStand();
        undoOnceEach();
        undoOfDrawnAlone();
        undoAfterOnAndWall();
        aheadRefused();
        aheadRows();
        aheadNoneAndAll();
        aheadOrder();
        aheadAsksAsItIsNow();
        DUE.end();
    }

    private static DryBargains agreed(String wall) {
        DryBargains x = Due.wall(wall);
        Due.allSayYes(x);
        return x;
    }

    private static Refused by(String wall, Consumer<DryBargains> steps) {
        return new Refused(DUE, x -> {
            Due.write(x, 0, wall);
            x.wall(0);
            Due.allSayYes(x);
            steps.accept(x);
        });
    }

    // ---- 23 asks

    private static void asksRefused() {
        DUE.promise("23 asks, BAD; NOTHING");
        for (int b : Refused.outside(0, Busy.BRICKS - 1)) {
            BUSY.bad("asks(" + b + ")", x -> x.asks(b));
        }
        BUSY.nothing("OUT", x -> x.asks(Busy.OUT));
        by("w9 b00AB b02CD", x -> {
            x.hang(1, 0);
            x.draw(0);
            x.draw(1);
        }).nothing("OUT, though it HANGS on one that is OUT", x -> x.asks(1));
        NEW.bad("no WALL", x -> x.asks(0));
    }

    private static void asks(DryBargains x, int b, int people, int missing) {
        DUE.is("asks(" + b + ")", x.asks(b), people);
        DUE.is("asks(" + b + "), asked()", x.asked(), missing);
    }

    private static void asksByKind() {
        DUE.promise("23 asks, all its MARKS' PEOPLE (FALSE: only its first MARK is one)");
        DryBargains x = Due.wall("w9 b00AF c02FA f04CD t06DEF r10EF a13FA");
        int[] due = {33, 33, 4, 56, 48, 33};
        for (int b = 0; b < 6; b++) {
            asks(x, b, due[b], due[b]);
        }
        x.heir(5, 0);
        asks(x, 0, 1, 1);
        asks(x, 3, 25, 25);
    }

    private static void asksWhoHasNot() {
        DUE.promise("23 asks, who of these has not said it");
        DryBargains x = Due.wall("w9 t00AFC b02DE");
        asks(x, 0, 37, 37);
        x.yes(3, 1);
        asks(x, 0, 37, 37);
        x.yes(0, 1);
        asks(x, 0, 37, 36);
        x.yes(5, 1);
        asks(x, 0, 37, 4);
        x.yes(2, 1);
        asks(x, 0, 37, 0);
        x.yes(5, 0);
        asks(x, 0, 37, 32);
        asks(x, 1, 24, 16);
    }

    private static void asksOfOneThatHangs() {
        DUE.promise("23 asks, 0: it HANGS on one that is OUT");
        DryBargains x = agreed("w9 b00AB b02CD b04EF");
        x.yes(4, 0);
        x.hang(2, 0);
        asks(x, 2, 48, 16);
        x.draw(1);
        asks(x, 2, 48, 16);
        x.draw(0);
        asks(x, 2, 0, 0);
        x.undo();
        asks(x, 2, 48, 16);
        x.hang(2, 1);
        asks(x, 2, 0, 0);
        x.hang(2, NONE);
        asks(x, 2, 48, 16);
        DryBargains fallen = agreed("w9 b00AB b11CD b04EF");
        fallen.hang(2, 1);
        fallen.frost(1, 12);
        asks(fallen, 2, 0, 0);
    }

    // ---- 24 draw

    private static void drawRefused() {
        DUE.promise("24 draw, BAD; NOTHING; STATE: it can't be");
        for (int b : Refused.outside(0, Busy.BRICKS - 1)) {
            BUSY.bad("draw(" + b + ")", x -> x.draw(b));
        }
        BUSY.nothing("OUT", x -> x.draw(Busy.OUT));
        BUSY.state("the VINE is on it", x -> x.draw(Busy.OVERGROWN));
        BUSY.state("it bears one", x -> x.draw(1));
        BUSY.state("one did not say YES", x -> x.draw(12));
        NEW.bad("no WALL", x -> x.draw(0));
        by("w9 b00AB b02CD", x -> {
            x.draw(0);
            x.yes(0, 0);
        }).nothing("OUT, and no YES", x -> x.draw(0));
    }

    private static void drawByYes() {
        DUE.promise("all its MARKS' PEOPLE must have said YES");
        for (int said = 0; said < 64; said++) {
            int these = said;
            boolean all = (said & 33) == 33;
            Consumer<DryBargains> saying = x -> {
                for (int p = 0; p < 6; p++) {
                    x.yes(p, these >> p & 1);
                }
            };
            if (all) {
                DryBargains x = agreed("w9 b00AF");
                saying.accept(x);
                DUE.is("YES of " + said, x.draw(0), 1);
                DUE.is("it is OUT", x.count(1), 0);
            } else if (Integer.bitCount(said) > 4 || said < 2) {
                by("w9 b00AF", saying).state("YES of " + said, x -> x.draw(0));
            }
        }
    }

    private static void drawFalseAndTriple() {
        DUE.promise("only its first MARK is one; of three MARKS");
        by("w9 f00AF", x -> x.yes(0, 0)).state("FALSE: the first did not", x -> x.draw(0));
        DryBargains x = agreed("w9 f00AF");
        x.yes(5, 0);
        DUE.is("FALSE: the second did not", x.draw(0), 1);
        for (int p : new int[] {0, 2, 5}) {
            by("w9 t00AFC", y -> y.yes(p, 0)).state("TRIPLE: " + p + " did not", y -> y.draw(0));
        }
        DUE.is("TRIPLE", agreed("w9 t00AFC").draw(0), 1);
    }

    private static void drawHanging() {
        DUE.promise("but if it HANGS on a BRICK that is OUT (then nobody's is asked)");
        Consumer<DryBargains> steps = x -> {
            x.hang(2, 0);
            x.hang(1, 0);
            x.yes(4, 0);
            x.yes(5, 0);
        };
        by("w9 b00AB b02EF b04EF b12CD", steps).state("it is IN", x -> x.draw(2));
        by("w9 b00AB b02EF b04EF b12CD", x -> {
            steps.accept(x);
            x.draw(0);
        }).state("it is OUT, but another one would fall", x -> x.draw(1));
        DryBargains x = agreed("w9 b00AB b02EF b04EF b12CD");
        steps.accept(x);
        x.draw(0);
        DUE.is("it is OUT", x.draw(2), 1);
        DUE.is("though nobody said YES", x.asks(1), 0);
        by("w9 b00AB b02EF", y -> {
            y.hang(1, 0);
            y.draw(0);
            y.vine(1);
        }).state("it is OUT, but the VINE is on it", y -> y.draw(1));
    }

    private static void drawOvergrown() {
        DUE.promise("it must not have the VINE on it");
        by("w9 b00AB", x -> x.vine(0)).state("planted", x -> x.draw(0));
        by("w9 b00AB b02CD", x -> {
            x.vine(1);
            x.go(1);
        }).state("by a YEAR", x -> x.draw(0));
        DryBargains x = agreed("w9 b00AB b02CD");
        x.vine(1);
        DUE.is("on another one", x.draw(0), 1);
    }

    private static void drawWhatBears() {
        DUE.promise("all others that are IN must stand without it, if they stood with it");
        by("w9 b00AB b10CD", x -> { }).state("one falls", x -> x.draw(0));
        by("w9 c11AB b00CD b02EF", x -> { }).state("a CRACKED one falls", x -> x.draw(1));
        by(VAULT, x -> { }).state("an ARCH falls", x -> x.draw(4));
        DUE.is("it RESTS on another one, too", agreed(STEPS).draw(0), 1);
        DryBargains wedged = agreed("w9 b00AB b10CD");
        wedged.wedge(1, 1);
        DUE.is("it has a WEDGE", wedged.draw(0), 1);
        DryBargains overgrown = agreed("w9 b00AB b10CD");
        overgrown.vine(1);
        DUE.is("it has the VINE", overgrown.draw(0), 1);
        DryBargains not = agreed("w9 b10AB b20CD");
        DUE.is("it did not stand", not.draw(0), 1);
    }

    private static void drawWhatDoesNotStand() {
        DUE.promise("24 draw, one that does not stand itself");
        DryBargains x = agreed("w9 b50AB");
        DUE.is("draw(0)", x.draw(0), 1);
        x.stands();
        DUE.is("it is OUT", x.asked(), 0);
    }

    private static void drawFirstAndLast() {
        DUE.promise("24 draw, all fourteen, and 0");
        DryBargains x = agreed(FOURTEEN);
        for (int b = 13; b >= 0; b--) {
            DUE.is("draw(" + b + ")", x.draw(b), 1);
            DUE.is("IN", x.count(1), b);
        }
        DUE.is("BRICKS", x.count(0), 14);
        for (int b = 0; b < 14; b++) {
            DUE.is("undo()", x.undo(), b);
        }
        DUE.is("none is left", x.undo(), Refused.STATE);
        DUE.is("all stand", x.stands(), (1 << 14) - 1);
    }

    // ---- 25 free

    private static void freeNoneAndAll() {
        DUE.promise("25 free, none and all");
        DryBargains none = new DryBargains();
        none.yes(0, 1);
        DUE.is("no WALL", none.free(), 0);
        DUE.is("no WALL, asked()", none.asked(), 0);
        DryBargains foot = Due.wall("w9 b00AB b02CD b04EF r06AC");
        DUE.is("none said YES", foot.free(), 0);
        DUE.is("all could", foot.asked(), 15);
        Due.allSayYes(foot);
        DUE.is("all", foot.free(), 15);
        DUE.is("all", foot.asked(), 15);
        foot.draw(3);
        DUE.is("but one that is OUT", foot.free(), 7);
        DUE.is("but one that is OUT", foot.asked(), 7);
        DryBargains full = agreed(FOURTEEN);
        DUE.is("the top", full.free(), Due.bits(10, 11, 12, 13));
    }

    private static void freeLikeDraw() {
        DUE.promise("25 free, those that draw() would draw");
        DryBargains busy = new DryBargains();
        Busy.make(busy);
        int free = busy.free();
        int could = busy.asked();
        for (int b = 0; b < Busy.BRICKS; b++) {
            DryBargains x = new DryBargains();
            Busy.make(x);
            DUE.is("draw(" + b + ")", x.draw(b) == 1 ? 1 : 0, free >> b & 1);
            DryBargains y = new DryBargains();
            Busy.make(y);
            Due.allSayYes(y);
            DUE.is("draw(" + b + "), all having said YES", y.draw(b) == 1 ? 1 : 0, could >> b & 1);
        }
        DUE.is("not all that could can", could == free ? 1 : 0, 0);
    }

    // ---- 26 undo

    private static void undoNone() {
        DUE.promise("26 undo, STATE: none was");
        NEW.state("no WALL", DryBargains::undo);
        by(STEPS, x -> { }).state("none was", DryBargains::undo);
        by(STEPS, x -> {
            x.draw(4);
            x.undo();
        }).state("it came back", DryBargains::undo);
    }

    private static void undoTaken() {
        DUE.promise("26 undo, STATE: its place is taken");
        String wall = "w9 b03AB b05CD b10EF";
        for (int half = 1; half <= 5; half++) {
            int at = half;
            boolean taken = half > 1 && half < 5;
            Consumer<DryBargains> steps = x -> {
                x.draw(1);
                x.draw(0);
                x.set(0, at, 0, 1);
            };
            DryBargains x = agreed(wall);
            steps.accept(x);
            DUE.is("set at " + half, x.count(0), 4);
            if (taken) {
                by(wall, steps).state("set at " + half, DryBargains::undo);
            } else {
                DUE.is("set at " + half, x.undo(), 0);
            }
        }
        DryBargains free = agreed(wall);
        free.draw(0);
        free.set(0, 3, 0, 1);
        free.draw(3);
        DUE.is("the one that took it comes back", free.undo(), 3);
        DUE.is("it is taken again", free.undo(), Refused.STATE);
        DryBargains other = agreed("w9 b00AB b10CD");
        other.draw(1);
        DUE.is("in another COURSE it is not taken", other.undo(), 1);
    }

    private static void undoWouldNotStand() {
        DUE.promise("26 undo, STATE: it would not stand");
        by("w9 b50AB", x -> x.draw(0)).state("it did not ahead", DryBargains::undo);
        by("w9 b00AB b11CD", x -> {
            x.wedge(1, 1);
            x.draw(0);
            x.draw(1);
        }).state("it has no WEDGE any more", DryBargains::undo);
        DryBargains x = agreed("w9 b00AB c11CD b02EF");
        x.draw(1);
        x.draw(2);
        DUE.is("first the last", x.undo(), 2);
        DUE.is("then it would", x.undo(), 1);
        by("w9 b00AB b02EF c11CD", y -> {
            y.draw(2);
            y.draw(1);
            y.set(0, 3, 0, 1);
            y.draw(3);
            y.undo();
        }).state("the last one's place is taken, and the one ahead does not come", DryBargains::undo);
    }

    private static void undoOnceEach() {
        DUE.promise("26 undo, the one that was DRAWN last, of those that did not come back since");
        DryBargains x = agreed("w9 b00AB b02CD b04EF");
        x.draw(1);
        x.draw(2);
        x.draw(0);
        DUE.is("0", x.undo(), 0);
        DUE.is("2", x.undo(), 2);
        x.draw(0);
        DUE.is("0 again", x.undo(), 0);
        DUE.is("1", x.undo(), 1);
        DUE.is("none", x.undo(), Refused.STATE);
        DUE.is("all are IN", x.count(1), 3);
        DUE.is("asked() is none of it", x.asked(), 0);
    }

    private static void undoOfDrawnAlone() {
        DUE.promise("26 undo, not what fell by frost");
        DryBargains x = agreed("w9 b00AB b11CD b04EF");
        x.draw(2);
        x.frost(1, 12);
        DUE.is("1 is OUT", x.asked(), 2);
        DUE.is("2 was DRAWN", x.undo(), 2);
        DUE.is("1 was not", x.undo(), Refused.STATE);
    }

    private static void undoAfterOnAndWall() {
        DUE.promise("26 undo, by the WALL as it is");
        DryBargains x = agreed("w9 b00AB b02CD b04EF");
        x.draw(1);
        x.keep(0);
        x.draw(2);
        x.on(0);
        DUE.is("as it was kept", x.undo(), 1);
        x.draw(0);
        x.wall(0);
        DUE.is("anew: none was", x.undo(), Refused.STATE);
    }

    // ---- 27 ahead

    private static void aheadRefused() {
        DUE.promise("27 ahead, BAD; NOTHING; STATE: the VINE is on it");
        for (int b : Refused.outside(0, Busy.BRICKS - 1)) {
            BUSY.bad("ahead(" + b + ", 0)", x -> x.ahead(b, 0));
        }
        for (int r : Refused.outside(0, 5)) {
            BUSY.bad("ahead(0, " + r + ")", x -> x.ahead(0, r));
            BUSY.bad("BAD ahead of NOTHING", x -> x.ahead(Busy.OUT, r));
            BUSY.bad("BAD ahead of STATE", x -> x.ahead(Busy.OVERGROWN, r));
        }
        BUSY.nothing("OUT, to a ROW that is there", x -> x.ahead(Busy.OUT, Busy.ROW));
        BUSY.nothing("OUT, to a ROW that is missing", x -> x.ahead(Busy.OUT, Busy.NO_ROW));
        BUSY.state("the VINE, to a ROW that is there", x -> x.ahead(Busy.OVERGROWN, Busy.ROW));
        BUSY.state("the VINE, to a ROW that is missing", x -> x.ahead(Busy.OVERGROWN, Busy.NO_ROW));
        NEW.bad("no WALL", x -> x.ahead(0, 0));
    }

    private static void rowIs(DryBargains x, int r, int... ints) {
        for (int i = 0; i < ints.length; i++) {
            DUE.is("at(" + r + ", " + i + ")", x.at(r, i), 1);
            DUE.is("at(" + r + ", " + i + "), asked()", x.asked(), ints[i]);
        }
        DUE.is("row " + r + " has no more", x.at(r, ints.length), Refused.FINDING);
        DUE.is("row " + r + " is there", x.finding(), Refused.BEYOND);
    }

    private static void aheadRows() {
        DUE.promise("27 ahead, its FALLS come to a ROW (anew)");
        for (int r : new int[] {0, 5}) {
            DryBargains x = agreed(VAULT);
            DUE.is("to one that was missing", x.ahead(1, r), 3);
            rowIs(x, r, 5, 3, 4);
            DUE.is("shorter", x.ahead(4, r), 2);
            rowIs(x, r, 5, 3);
            DUE.is("to none", x.ahead(5, r), 0);
            rowIs(x, r);
            x.row(r, 40);
            x.lay(r, 39, 7);
            DUE.is("of 40 no more are left", x.ahead(3, r), 1);
            rowIs(x, r, 5);
            DUE.is("one ROW", x.count(6), 1);
            DUE.is("nothing is DRAWN by it", x.count(1), 6);
        }
    }

    private static void aheadNoneAndAll() {
        DUE.promise("27 ahead, none and all others");
        DryBargains one = Due.wall("w2 b00AB");
        DUE.is("alone", one.ahead(0, 0), 0);
        DUE.is("its own", one.asked(), 3);
        DryBargains x = Due.wall("w9 r03AB b12AB b15AB b21AB b24AB b26AB b30AB b32AB b34AB b36AB b40AB b42AB b44AB b46CD");
        DUE.is("all thirteen", x.ahead(0, 1), 13);
        DUE.is("whose YES", x.asked(), 15);
        rowIs(x, 1, 10, 11, 12, 13, 6, 7, 8, 9, 3, 4, 5, 1, 2);
        DryBargains not = Due.wall("w9 b10AB b20CD");
        DUE.is("it does not stand, so none falls", not.ahead(0, 2), 0);
        rowIs(not, 2);
    }

    private static void aheadOrder() {
        DUE.promise("27 ahead, the highest COURSE first (in one COURSE ARCHES first, then by numbers)");
        DryBargains x = agreed("w9 b20AB b10CD a22EF b12AB b25CD b15EF r01AB b30CD b04AB b06AB");
        DUE.is("all stand", x.stands(), 1023);
        DUE.is("ahead of 1", x.ahead(1, 0), 3);
        rowIs(x, 0, 7, 2, 0);
        DUE.is("they are drawn so", x.draw(7) + x.draw(2) + x.draw(0) + x.draw(1), 4);
        DryBargains vault = agreed("w9 b00AB b05CD b10CD a12EF b15CD b23CD a20AB");
        DUE.is("ARCHES first, whatever their numbers", vault.ahead(0, 0), 4);
        rowIs(vault, 0, 6, 5, 3, 2);
        DryBargains tower = agreed("w9 b20AB b10CD b00EF");
        DUE.is("by COURSES, not by numbers", tower.ahead(2, 0), 2);
        rowIs(tower, 0, 0, 1);
        DryBargains high = agreed("w9 b40AB a50CD b42EF b30AB b44CD a53EF");
        high.wedge(3, 1);
        high.wedge(2, 1);
        high.wedge(4, 1);
        DUE.is("up to COURSE 5, with the first BRICK", high.ahead(3, 0), 2);
        rowIs(high, 0, 1, 0);
    }

    private static void aheadAsksAsItIsNow() {
        DUE.promise("27 ahead, whose YES is asked for them and for it, as it is now");
        DryBargains x = agreed("w9 b00AB b10CD b20EF b04AB");
        x.ahead(0, 0);
        DUE.is("all", x.asked(), 63);
        x.hang(2, 1);
        x.ahead(0, 0);
        DUE.is("1 is IN now", x.asked(), 63);
        x.draw(3);
        x.hang(2, 3);
        x.ahead(0, 0);
        DUE.is("3 is OUT now", x.asked(), 15);
        x.hang(0, 3);
        x.ahead(0, 0);
        DUE.is("3 is OUT now", x.asked(), 12);
        x.hang(1, 3);
        x.ahead(0, 0);
        DUE.is("nobody's", x.asked(), 0);
        DryBargains first = Due.wall("w9 b10AB b00CD");
        first.ahead(1, 0);
        DUE.is("for the first BRICK, too", first.asked(), 15);
        DryBargains f = Due.wall("w9 f00AB t10CDE");
        f.ahead(0, 0);
        DUE.is("a FALSE one's second is not", f.asked(), Due.bits(0, 2, 3, 4));
    }
}
