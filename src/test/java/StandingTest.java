/** Promises 19 to 29: what stands, what falls, drawing, undoing, what has to be out ahead, what wedges do. */
public final class StandingTest {
    private static final int BAD = -1, FINDING = -3, STATE = -4, NONE = -9;
    private static final int NOTHING = 1, BEYOND = 2;
    private static final String STEPS = "w6 b00AB b02BC b04CD b11DE b13EF";
    private static final String VAULT = "w9 b00AB b05CD b10EF a12AB b15BC b22DE";
    private static final Due DUE = new Due("StandingTest");

    public static void main(String[] args) {
        standsPlain();
        standsCracked();
        standsBridge();
        standsArch();
        standsByHelp();
        falls();
        load();
        great();
        asks();
        draw();
        drawHanging();
        drawHelped();
        free();
        undo();
        undoRefused();
        ahead();
        aheadOrder();
        rests();
        props();
        refused();
        DUE.end();
    }

    private static void finds(DryBargains x, String call, int got, int finding) {
        DUE.is(call, got, FINDING);
        DUE.is(call + ", finding()", x.finding(), finding);
    }

    private static void stands(String wall, int... those) {
        DryBargains x = Due.wall(wall);
        int set = Due.bits(those);
        DUE.is("stands() of " + wall, x.stands(), set);
        DUE.is("those that do not of " + wall, x.asked(), (1 << x.count(0)) - 1 & ~set);
    }

    private static void standsPlain() {
        DUE.promise("19 stands, BRICKS of two HALVES");
        stands("w9 b00AB f02AB t04ABC c06AB", 0, 1, 2, 3);
        stands("w9 b00AB b11AB f22AB t33ABC", 0, 1, 2, 3);
        stands("w9 b03AB b11AB", 0);
        stands("w9 b03AB b12AB", 0, 1);
        stands("w9 b10AB b20AB b30AB");
        stands("w9 b00AB b20AB", 0);
        stands("w9 b20AB b10AB b00AB", 0, 1, 2);
        stands("w9 f10AB t12ABC b14AB b00AB b05AB", 0, 2, 3, 4);
    }

    private static void standsCracked() {
        DUE.promise("19 stands, CRACKED");
        stands("w9 b00AB c10AB", 0, 1);
        stands("w9 b00AB c11AB", 0);
        stands("w9 b00AB b02AB c11AB", 0, 1, 2);
        stands("w9 b01AB c10AB", 0);
        stands("w9 b00AB b02AB c11AB c21AB b32AB", 0, 1, 2, 3, 4);
    }

    private static void standsBridge() {
        DUE.promise("19 stands, BRIDGE");
        stands("w9 r00AB", 0);
        stands("w9 b00AB b02AB r10AB", 0, 1, 2);
        stands("w9 b00AB b03AB r11AB", 0, 1, 2);
        stands("w9 b00AB r10AB", 0);
        stands("w9 b01AB r10AB", 0);
        stands("w9 b02AB r10AB", 0);
        stands("w9 b02AB r11AB", 0);
        stands("w9 b00AB b05AB b10AB r12AB b15AB", 0, 1, 2, 4);
    }

    private static void standsArch() {
        DUE.promise("19 stands, ARCH");
        stands("w9 a00AB", 0);
        stands("w9 b00AB b03AB a11AB", 0, 1, 2);
        stands("w9 b00AB a10AB", 0);
        stands(VAULT, 0, 1, 2, 3, 4, 5);
        stands("w9 a12AB b00AB b05AB b10AB b15AB", 0, 1, 2, 3, 4);
        stands("w9 b00AB b05AB b10AB a12AB", 0, 1, 2);
        stands("w9 b00AB b05AB a12AB b15AB", 0, 1, 3);
        stands("w9 b05AB b10AB a12AB b15AB", 0, 3);
        stands("w9 b00AB b06AB b10AB a12AB b16AB", 0, 1, 2, 4);
        stands("w9 b00AB b05AB b10AB a12AB r15AB b07AB", 0, 1, 2, 3, 4, 5);
        stands("w9 b00AB r05AB b10AB a12AB a15AB", 0, 1, 2, 4);
        stands("w9 r00AB b06AB a10AB a13AB b16AB", 0, 1, 2, 4);
    }

    private static void standsByHelp() {
        DUE.promise("19 stands, WEDGE and VINE");
        DryBargains x = Due.wall("w9 b20AB b30AB b40AB");
        DUE.is("none", x.stands(), 0);
        DUE.is("all three", x.asked(), 7);
        x.wedge(1, 1);
        DUE.is("from the WEDGE on", x.stands(), 6);
        DUE.is("but the lowest", x.asked(), 1);
        x.vine(0);
        DUE.is("from the VINE on", x.stands(), 7);
        DryBargains y = Due.wall("w9 b30AB a32AB b35AB");
        y.wedge(0, 1);
        y.vine(2);
        DUE.is("an ARCH between those", y.stands(), 7);
        DUE.is("no WALL", new DryBargains().stands(), 0);
    }

    private static void falls() {
        DUE.promise("20 falls");
        DryBargains x = Due.wall(STEPS);
        int[][] due = {{0, 0}, {1, 0}, {2, 0}, {3, 8}, {4, 0}, {5, 0}, {6, 16}, {7, 24}, {8, 0}, {11, 0}, {31, 0}};
        for (int[] d : due) {
            DUE.is("falls(" + d[0] + ")", x.falls(d[0]), d[1]);
        }
        DUE.is("falls(32)", x.falls(32), BAD);
        DUE.is("falls(-1)", x.falls(-1), BAD);
        DUE.is("falls(min)", x.falls(Integer.MIN_VALUE), BAD);
        Due.allSayYes(x);
        x.draw(0);
        DUE.is("brick 3 hangs on one now", x.falls(2), 8);
        finds(x, "falls(3)", x.falls(3), NOTHING);
        DUE.is("BAD ahead of NOTHING", x.falls(33), BAD);
        DryBargains y = Due.wall("w9 b00AB b10AB b20AB b50AB");
        DUE.is("all that is upon it, not what did not stand", y.falls(1), 6);
        y.wedge(1, 1);
        DUE.is("a WEDGE", y.falls(1), 0);
        DUE.is("falls(2)", y.falls(2), 4);
        DUE.is("falls of one that does not stand", y.falls(8), 0);
        DryBargains full = Due.wall("w9b00ABb02ABb04ABb06ABb10ABb12ABb14ABb16ABb20ABb22ABb24ABb26ABb30ABb32AB");
        DUE.is("all fourteen", full.falls((1 << 14) - 1), 0);
        DUE.is("a fifteenth", full.falls(1 << 14), BAD);
        DUE.is("the foot", full.falls(15), (1 << 14) - 16);
        DUE.is("asked() is not told", full.asked(), 0);
    }

    private static void load() {
        DUE.promise("21 load");
        DryBargains x = Due.wall(VAULT);
        int[] due = {3, 3, 2, 1, 2, 0};
        for (int b = 0; b < 6; b++) {
            DUE.is("load(" + b + ")", x.load(b), due[b]);
        }
        DryBargains y = Due.wall("w6 b00AB b02BC c11DE r20AB");
        DUE.is("a CRACKED one", y.load(0), 1);
        DUE.is("a CRACKED one", y.load(1), 1);
        DUE.is("a BRIDGE that did not stand", y.load(2), 0);
    }

    private static void great() {
        DUE.promise("22 great");
        DryBargains x = Due.wall(VAULT);
        DUE.is("the first", x.great(), 0);
        DUE.is("its LOAD", x.asked(), 3);
        DryBargains y = Due.wall("w9 b05AB b00AB b10AB b20AB b15CD");
        DUE.is("not the least number", y.great(), 1);
        DUE.is("its LOAD", y.asked(), 2);
        Due.allSayYes(y);
        y.draw(3);
        DUE.is("now the first", y.great(), 0);
        DUE.is("its LOAD", y.asked(), 1);
        y.draw(4);
        y.draw(0);
        DUE.is("those that are IN", y.great(), 1);
        y.draw(2);
        DUE.is("without any LOAD the first", y.great(), 1);
        DUE.is("0", y.asked(), 0);
        y.brick(1, 2);
        y.brick(0, 2);
        y.draw(1);
        DUE.is("none is IN", y.great(), NONE);
        DUE.is("NONE tells none", y.asked(), 5);
        DUE.is("no WALL", new DryBargains().great(), NONE);
    }

    private static void asks() {
        DUE.promise("23 asks");
        DryBargains x = Due.wall("w9 b00AB f02CD t04DEF b06FA");
        DUE.is("two", x.asks(0), Due.bits(0, 1));
        DUE.is("neither has", x.asked(), Due.bits(0, 1));
        DUE.is("FALSE: the first", x.asks(1), Due.bits(2));
        DUE.is("three", x.asks(2), Due.bits(3, 4, 5));
        x.yes(4, 1);
        x.yes(0, 1);
        x.asks(2);
        DUE.is("who has not", x.asked(), Due.bits(3, 5));
        x.asks(0);
        DUE.is("who has not", x.asked(), Due.bits(1));
        x.hang(0, 3);
        DUE.is("it HANGS on one that is IN", x.asks(0), Due.bits(0, 1));
        x.yes(5, 1);
        DUE.is("draw(3)", x.draw(3), 1);
        DUE.is("it HANGS on one that is OUT", x.asks(0), 0);
        DUE.is("none is left", x.asked(), 0);
        finds(x, "asks(3)", x.asks(3), NOTHING);
        DUE.is("it comes back", x.undo(), 3);
        DUE.is("it HANGS on one that is IN", x.asks(0), Due.bits(0, 1));
        x.heir(0, 1);
        DUE.is("one twice", x.asks(0), Due.bits(1));
    }

    private static void draw() {
        DUE.promise("24 draw");
        DryBargains x = Due.wall(STEPS);
        DUE.is("nobody said YES", x.draw(3), STATE);
        x.yes(3, 1);
        DUE.is("one said YES", x.draw(3), STATE);
        x.yes(4, 1);
        DUE.is("both did", x.draw(3), 1);
        finds(x, "it is OUT", x.draw(3), NOTHING);
        x.yes(3, 0);
        x.yes(1, 1);
        x.yes(2, 1);
        DUE.is("4 rests on 2, too", x.draw(1), 1);
        x.yes(3, 1);
        DUE.is("4 would fall", x.draw(2), STATE);
        DUE.is("IN", x.stands(), Due.bits(0, 2, 4));
        DryBargains y = Due.wall("w9 f00AB t02ABC");
        y.yes(0, 1);
        DUE.is("FALSE: only its first MARK is one", y.draw(0), 1);
        y.yes(1, 1);
        DUE.is("TRIPLE: the third one did not", y.draw(1), STATE);
        y.yes(2, 1);
        DUE.is("TRIPLE", y.draw(1), 1);
        DryBargains z = Due.wall("w9 b50AB b52AB");
        Due.allSayYes(z);
        DUE.is("one that does not stand", z.draw(0), 1);
    }

    private static void drawHanging() {
        DUE.promise("24 draw, one that HANGS");
        DryBargains x = Due.wall("w9 b00AB b02CD b10CD");
        x.hang(0, 1);
        x.yes(2, 1);
        x.yes(3, 1);
        DUE.is("on one that is IN", x.draw(0), STATE);
        x.draw(1);
        DUE.is("2 would fall", x.draw(0), STATE);
        x.draw(2);
        DUE.is("nobody is asked", x.draw(0), 1);
    }

    private static void drawHelped() {
        DUE.promise("24 draw, WEDGE and VINE");
        DryBargains x = Due.wall("w9 b00AB b10CD b20CD");
        Due.allSayYes(x);
        x.vine(0);
        DUE.is("2 would not fall, 1 would", x.draw(1), STATE);
        x.wedge(2, 1);
        DUE.is("a WEDGE under 2", x.draw(1), 1);
        DUE.is("the VINE is on it", x.draw(0), STATE);
        DUE.is("it has a WEDGE", x.draw(2), 1);
        DUE.is("WEDGES", x.count(3), 0);
    }

    private static void free() {
        DUE.promise("25 free");
        DryBargains x = Due.wall(STEPS);
        DUE.is("nobody said YES", x.free(), 0);
        DUE.is("if all had", x.asked(), 31);
        x.yes(3, 1);
        x.yes(4, 1);
        DUE.is("DE", x.free(), Due.bits(3));
        Due.allSayYes(x);
        DUE.is("all", x.free(), 31);
        x.draw(0);
        DUE.is("but 1", x.free(), Due.bits(2, 3, 4));
        x.vine(4);
        DUE.is("but 4", x.free(), Due.bits(2, 3));
        DUE.is("but 4", x.asked(), Due.bits(2, 3));
        for (int p = 0; p < 6; p++) {
            x.yes(p, 0);
        }
        x.hang(3, 0);
        DUE.is("it HANGS on one that is OUT", x.free(), Due.bits(3));
        DUE.is("those that could", x.asked(), Due.bits(2, 3));
        DUE.is("no WALL", new DryBargains().free(), 0);
    }

    private static void undo() {
        DUE.promise("26 undo");
        DryBargains x = Due.wall(STEPS);
        Due.allSayYes(x);
        DUE.is("none was", x.undo(), STATE);
        x.wedge(4, 1);
        x.draw(4);
        x.draw(3);
        x.draw(0);
        DUE.is("the last", x.undo(), 0);
        x.draw(1);
        DUE.is("the last", x.undo(), 1);
        DUE.is("the one ahead", x.undo(), 3);
        DUE.is("the first", x.undo(), 4);
        DUE.is("no more", x.undo(), STATE);
        DUE.is("no WEDGE", x.count(3), 0);
        DUE.is("all are back", x.stands(), 31);
    }

    private static void undoRefused() {
        DUE.promise("26 undo, refused");
        DryBargains x = Due.wall("w6 b00AB b02BC b11CD");
        Due.allSayYes(x);
        x.draw(2);
        x.draw(1);
        DUE.is("set(0, 3)", x.set(0, 3, 0, 1), 3);
        DUE.is("a HALF of its place is taken", x.undo(), STATE);
        DUE.is("refused: still the last", x.draw(3), 1);
        DUE.is("that one comes back", x.undo(), 3);
        x.draw(3);
        x.undo();
        DUE.is("1 can't", x.undo(), STATE);
        DryBargains y = Due.wall("w6 b00AB b10CD b50AB");
        Due.allSayYes(y);
        y.draw(2);
        DUE.is("it would not stand", y.undo(), STATE);
        DryBargains z = Due.wall("w6 b00AB b10CD");
        Due.allSayYes(z);
        z.draw(1);
        z.frost(1, 0);
        DUE.is("a frost that does nothing", z.undo(), 1);
        z.wedge(1, 1);
        z.draw(0);
        z.draw(1);
        DUE.is("its WEDGE is lost, 0 is OUT", z.undo(), STATE);
        DUE.is("IN", z.count(1), 0);
    }

    private static void row(DryBargains x, int r, int... due) {
        for (int i = 0; i < due.length; i++) {
            x.at(r, i);
            DUE.is("at(" + r + ", " + i + ")", x.asked(), due[i]);
        }
        finds(x, "no more in it", x.at(r, due.length), BEYOND);
    }

    private static void ahead() {
        DUE.promise("27 ahead");
        DryBargains x = Due.wall(VAULT);
        x.row(4, 40);
        DUE.is("three", x.ahead(0, 4), 3);
        DUE.is("whose YES", x.asked(), Due.bits(0, 1, 3, 4, 5));
        row(x, 4, 5, 3, 2);
        DUE.is("none", x.ahead(5, 0), 0);
        DUE.is("its own", x.asked(), Due.bits(3, 4));
        row(x, 0);
        DUE.is("a ROW anew", x.count(6), 2);
        Due.allSayYes(x);
        x.ahead(5, 0);
        DUE.is("asked, though said", x.asked(), Due.bits(3, 4));
        x.draw(5);
        x.hang(3, 5);
        x.hang(2, 0);
        DUE.is("two", x.ahead(0, 1), 2);
        DUE.is("as it is now", x.asked(), Due.bits(0, 1, 4, 5));
        row(x, 1, 3, 2);
        x.hang(0, 5);
        x.ahead(0, 1);
        DUE.is("as it is now", x.asked(), Due.bits(4, 5));
        x.vine(0);
        DUE.is("the VINE is on it", x.ahead(0, 1), STATE);
        row(x, 1, 3, 2);
        DUE.is("the VINE is on another one", x.ahead(1, 1), 2);
        DUE.is("BAD row", x.ahead(0, 6), BAD);
        DUE.is("BAD row", x.ahead(0, -1), BAD);
        DUE.is("BAD ahead of NOTHING", x.ahead(5, 6), BAD);
    }

    private static void aheadOrder() {
        DUE.promise("27 ahead, order");
        DryBargains y = Due.wall("w9 r03AB b13AB b15AB a10AB b23AB a20AB b25AB");
        DUE.is("those that stand", y.stands(), Due.bits(0, 1, 2, 4, 6));
        DUE.is("by numbers in a COURSE", y.ahead(0, 2), 4);
        row(y, 2, 4, 6, 1, 2);
        DryBargains z = Due.wall("w9 b02AB b05AB b07AB b12AB a14AB b17AB b21AB a23AB b26AB");
        DUE.is("all stand", z.stands(), (1 << 9) - 1);
        DUE.is("ARCHES first in each COURSE", z.ahead(0, 3), 4);
        row(z, 3, 7, 6, 4, 3);
        DryBargains top = Due.wall("w9 b00AB r10AB b20AB r30AB b40AB a50AB b42AB");
        top.wedge(1, 1);
        top.wedge(3, 1);
        DUE.is("up to the highest COURSE", top.ahead(3, 3), 3);
        row(top, 3, 5, 4, 6);
    }

    private static void rests() {
        DUE.promise("28 rests");
        DryBargains x = Due.wall(STEPS);
        DUE.is("at the foot on none", x.rests(1), 0);
        DUE.is("upon it", x.asked(), Due.bits(3, 4));
        DUE.is("on two", x.rests(4), Due.bits(1, 2));
        DUE.is("upon it", x.asked(), 0);
        Due.allSayYes(x);
        x.draw(1);
        DUE.is("on those that are IN", x.rests(4), Due.bits(2));
        DUE.is("rests(0)", x.rests(0), 0);
        DUE.is("upon it", x.asked(), Due.bits(3));
        x.draw(3);
        x.rests(0);
        DUE.is("those that are IN", x.asked(), 0);
        DryBargains y = Due.wall("w9 b10AB b20AB r31CD");
        DUE.is("on those that stand", y.rests(1), 0);
        DUE.is("upon it, though it does not stand", y.asked(), 4);
        y.wedge(0, 1);
        DUE.is("now it does", y.rests(1), 1);
        DUE.is("with one HALF", y.rests(2), 2);
        DryBargains z = Due.wall("w9 r00AB r10AB b03CD");
        DUE.is("no side by side", z.rests(1), 1);
        DUE.is("no side by side", z.rests(2), 0);
        DUE.is("no side by side", z.asked(), 0);
    }

    private static void props() {
        DUE.promise("29 props");
        DryBargains x = Due.wall(VAULT);
        DUE.is("one under 2 does", x.props(0), 1);
        DUE.is("under 2", x.asked(), Due.bits(2));
        DUE.is("props(2)", x.props(2), 1);
        DUE.is("under the ARCH", x.asked(), Due.bits(3));
        DUE.is("props(3)", x.props(3), 1);
        DUE.is("under 5", x.asked(), Due.bits(5));
        DUE.is("props(5)", x.props(5), 0);
        DUE.is("none", x.asked(), 0);
        DryBargains y = Due.wall("w4 b01AB b10BC b12CD");
        DUE.is("two", y.props(0), 2);
        DUE.is("under both", y.asked(), Due.bits(1, 2));
        DUE.is("no WEDGES come", y.count(3), 0);
        y.wedge(1, 1);
        DUE.is("one more", y.props(0), 1);
        DUE.is("under 2", y.asked(), Due.bits(2));
        DryBargains z = Due.wall("w9 r03AB b12AB b15AB b06AB");
        DUE.is("15 rests on both", z.props(0), 1);
        DUE.is("under 12", z.asked(), Due.bits(1));
        String many = "w9 b00AB b02AB b04AB b06AB b10AB b12AB b14AB b16AB b20AB r22AB r25AB";
        DryBargains w = Due.wall(many);
        for (int b = 4; b < 8; b++) {
            w.wedge(b, 1);
        }
        DUE.is("however many there are", w.props(6), 2);
        DUE.is("both BRIDGES have an end there", w.asked(), Due.bits(9, 10));
    }

    private static void refused() {
        DUE.promise("21, 23, 24, 27, 28, 29 refused");
        DryBargains x = Due.wall(STEPS);
        Due.allSayYes(x);
        x.draw(4);
        x.brick(3, 1);
        x.draw(4);
        for (int b : new int[] {-1, 5, 31, 32, Integer.MIN_VALUE, Integer.MAX_VALUE}) {
            DUE.is("load(" + b + ")", x.load(b), BAD);
            DUE.is("asks(" + b + ")", x.asks(b), BAD);
            DUE.is("draw(" + b + ")", x.draw(b), BAD);
            DUE.is("ahead(" + b + ", 0)", x.ahead(b, 0), BAD);
            DUE.is("rests(" + b + ")", x.rests(b), BAD);
            DUE.is("props(" + b + ")", x.props(b), BAD);
        }
        DUE.is("findings(1)", x.findings(1), 1);
        DUE.is("load(4)", x.load(4), FINDING);
        DUE.is("asks(4)", x.asks(4), FINDING);
        DUE.is("draw(4)", x.draw(4), FINDING);
        DUE.is("ahead(4, 0)", x.ahead(4, 0), FINDING);
        DUE.is("rests(4)", x.rests(4), FINDING);
        DUE.is("props(4)", x.props(4), FINDING);
        DUE.is("findings(1)", x.findings(1), 7);
        DUE.is("finding()", x.finding(), NOTHING);
        DUE.is("asked() stays", x.asked(), 1);
        DUE.is("no ROW came", x.count(6), 0);
    }
}
