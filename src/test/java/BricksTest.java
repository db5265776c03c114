/** Promises 12 to 18: what bricks are, yes, heirs, what hangs, wedges, the vine. */
public final class BricksTest {
    private static final int BAD = -1, FULL = -2, FINDING = -3, STATE = -4, NONE = -9;
    private static final int NOTHING = 1, UNLIKE = 3;
    private static final Due DUE = new Due("BricksTest");

    public static void main(String[] args) {
        brick();
        brickOfStates();
        markCracked();
        markFalseAndTriple();
        markBridge();
        markArch();
        markRefused();
        yes();
        heir();
        hang();
        wedge();
        wedgeAway();
        vine();
        DUE.end();
    }

    private static void finds(DryBargains x, String call, int got, int finding) {
        DUE.is(call, got, FINDING);
        DUE.is(call + ", finding()", x.finding(), finding);
    }

    private static void tells(DryBargains x, int b, int what, int want) {
        DUE.is("brick(" + b + ", " + what + ")", x.brick(b, what), 1);
        DUE.is("brick(" + b + ", " + what + "), asked()", x.asked(), want);
    }

    private static void brick() {
        DUE.promise("12 brick");
        DryBargains x = Due.wall("w9 b00AB c12BC f24CD t36DEF r40EF a53FA");
        int[][] due = {{0, 0, 0, 0, 1, NONE}, {1, 1, 2, 1, 2, NONE}, {2, 2, 4, 2, 3, NONE},
            {3, 3, 6, 3, 4, 5}, {4, 4, 0, 4, 5, NONE}, {5, 5, 3, 5, 0, NONE}};
        for (int b = 0; b < 6; b++) {
            for (int what = 0; what < 6; what++) {
                tells(x, b, what, due[b][what]);
            }
            tells(x, b, 6, 1);
            tells(x, b, 7, 0);
            tells(x, b, 8, NONE);
        }
        DUE.is("brick(-1, 0)", x.brick(-1, 0), BAD);
        DUE.is("brick(6, 0)", x.brick(6, 0), BAD);
        DUE.is("brick(0, -1)", x.brick(0, -1), BAD);
        DUE.is("brick(0, 9)", x.brick(0, 9), BAD);
        DUE.is("no WALL", new DryBargains().brick(0, 0), BAD);
    }

    private static void brickOfStates() {
        DUE.promise("12 brick, 6 to 8");
        DryBargains x = Due.wall("w9 b00AB b10BC b20CD");
        Due.allSayYes(x);
        x.wedge(2, 1);
        tells(x, 2, 7, 1);
        x.wedge(1, 1);
        x.vine(1);
        tells(x, 1, 7, 3);
        x.vine(0);
        tells(x, 0, 7, 2);
        x.hang(2, 0);
        tells(x, 2, 8, 0);
        DUE.is("draw(2)", x.draw(2), 1);
        tells(x, 2, 6, 0);
        tells(x, 2, 7, 0);
        tells(x, 2, 8, 0);
        tells(x, 2, 3, 2);
    }

    private static void markCracked() {
        DUE.promise("13 mark, CRACKED");
        DryBargains x = Due.wall("w9 b00AB b02AB c04AB c11BC c13BC b24AB c34BC");
        DUE.is("at the foot", x.mark(2, 1), 2);
        DUE.is("with both", x.mark(3, 1), 2);
        DUE.is("with both", x.mark(4, 1), 2);
        DUE.is("with both", x.mark(6, 1), 2);
        Due.allSayYes(x);
        x.wedge(3, 1);
        x.draw(0);
        DUE.is("with one", x.mark(3, 1), 1);
        DryBargains y = Due.wall("w9 b20AB c30AB");
        DUE.is("what does not stand bears none", y.mark(1, 1), 0);
    }

    private static void markFalseAndTriple() {
        DUE.promise("13 mark, FALSE, TRIPLE");
        DryBargains x = Due.wall("w9 f00EB t02BFC t04DCA");
        DUE.is("FALSE", x.mark(0, 2), 1);
        DUE.is("the greatest", x.mark(1, 3), 5);
        DUE.is("the greatest", x.mark(2, 3), 3);
        x.heir(5, 0);
        x.heir(1, 3);
        DUE.is("FALSE", x.mark(0, 2), 3);
        DUE.is("the greatest", x.mark(1, 3), 3);
    }

    private static void markBridge() {
        DUE.promise("13 mark, BRIDGE");
        DryBargains x = Due.wall("w9 b00AB b03AB b06AB r11BC a14BC r21CD");
        DUE.is("a hole under its middle", x.mark(3, 4), 0);
        DUE.is("an ARCH, too", x.mark(4, 4), 0);
        DUE.is("with its middle", x.mark(5, 4), 1);
        DryBargains y = Due.wall("w9 r00AB b10AB r21CD");
        DUE.is("at the foot", y.mark(0, 4), 1);
        DUE.is("BRICK does not reach its middle", y.mark(2, 4), 0);
        DryBargains z = Due.wall("w9 b10AB a20CD");
        DUE.is("beneath does not stand", z.mark(1, 4), 0);
        z.wedge(0, 1);
        DUE.is("by a WEDGE it does", z.mark(1, 4), 1);
    }

    private static void markArch() {
        DUE.promise("13 mark, ARCH");
        DryBargains x = Due.wall("w9 b00AB b05AB b10BC a12BC b15CD");
        DUE.is("both", x.mark(3, 5), 2);
        DUE.is("at its middle no BRICK", x.mark(3, 4), 0);
        DryBargains y = Due.wall("w9 b00AB b10BC a12BC a15CD");
        DUE.is("of KIND 5, but does not stand", y.mark(2, 5), 1);
        y.wedge(3, 1);
        DUE.is("of KIND 5 that stands", y.mark(2, 5), 2);
        DUE.is("it is no help", y.stands(), Due.bits(0, 1, 3));
        DUE.is("left of it none stands, right of it no HALF", y.mark(3, 5), 0);
        DryBargains z = Due.wall("w3 a00AB");
        DUE.is("from side to side", z.mark(0, 5), 0);
        DryBargains far = Due.wall("w9 b00AB a03AB b07AB");
        DUE.is("a HALF between", far.mark(1, 5), 0);
    }

    private static void markRefused() {
        DUE.promise("13 mark, refused");
        DryBargains x = Due.wall("w9 b00AB c02BC f04CD t06DEF r10EF a13FA");
        for (int b = 0; b < 6; b++) {
            for (int kind = 1; kind <= 5; kind++) {
                boolean is = b == kind || b == 5 && kind == 4;
                if (!is) {
                    finds(x, "mark(" + b + ", " + kind + ")", x.mark(b, kind), UNLIKE);
                } else {
                    DUE.is("mark(" + b + ", " + kind + ") is told", x.mark(b, kind) >= 0 ? 1 : 0, 1);
                }
            }
            DUE.is("KIND 0", x.mark(b, 0), BAD);
            DUE.is("KIND 6", x.mark(b, 6), BAD);
            DUE.is("KIND -1", x.mark(b, -1), BAD);
        }
        DUE.is("mark(6, 1)", x.mark(6, 1), BAD);
        DUE.is("mark(-1, 1)", x.mark(-1, 1), BAD);
        Due.allSayYes(x);
        x.draw(5);
        finds(x, "OUT ahead of UNLIKE", x.mark(5, 1), NOTHING);
        finds(x, "OUT", x.mark(5, 5), NOTHING);
        DUE.is("BAD ahead of OUT", x.mark(5, 0), BAD);
    }

    private static void yes() {
        DUE.promise("14 yes");
        DryBargains x = Due.wall("w9 b00AB");
        for (int p = 0; p < 6; p++) {
            DUE.is("first", x.yes(p, 0), 0);
            DUE.is("still not", x.yes(p, 1), 0);
            DUE.is("has", x.yes(p, 1), 1);
            DUE.is("has", x.yes(p, 0), 1);
            DUE.is("no more", x.yes(p, p % 2), 0);
        }
        for (int p = 0; p < 6; p++) {
            DUE.is("each for itself", x.yes(p, 0), p % 2);
        }
        DUE.is("yes(-1, 1)", x.yes(-1, 1), BAD);
        DUE.is("yes(6, 1)", x.yes(6, 1), BAD);
        DUE.is("yes(0, 2)", x.yes(0, 2), BAD);
        DUE.is("yes(0, -1)", x.yes(0, -1), BAD);
        DUE.is("no WALL", new DryBargains().yes(3, 1), 0);
    }

    private static void heir() {
        DUE.promise("15 heir");
        DryBargains x = Due.wall("w9 b00AB b02BA f04CA t06ABC b10AF");
        Due.allSayYes(x);
        x.draw(4);
        DUE.is("heir(0, 0)", x.heir(0, 0), BAD);
        DUE.is("heir(-1, 0)", x.heir(-1, 0), BAD);
        DUE.is("heir(0, 6)", x.heir(0, 6), BAD);
        DUE.is("heir(6, 0)", x.heir(6, 0), BAD);
        DUE.is("heir(0, -1)", x.heir(0, -1), BAD);
        DUE.is("also those that are none, and of one that is OUT", x.heir(0, 1), 5);
        int[][] due = {{1, 1, NONE}, {1, 1, NONE}, {2, 1, NONE}, {1, 1, 2}, {1, 5, NONE}};
        for (int b = 0; b < 5; b++) {
            for (int i = 0; i < 3; i++) {
                tells(x, b, 3 + i, due[b][i]);
            }
        }
        DUE.is("none any more", x.heir(0, 3), 0);
        DUE.is("a BRICK has one twice", x.heir(1, 3), 8);
        DUE.is("the third one", x.heir(2, 4), 2);
        tells(x, 3, 5, 4);
        DUE.is("no WALL", new DryBargains().heir(1, 2), 0);
    }

    private static void hang() {
        DUE.promise("16 hang");
        DryBargains x = Due.wall("w9 b00AB b02BC b04CD");
        DUE.is("first", x.hang(0, 1), NONE);
        DUE.is("hung on 1", x.hang(0, 2), 1);
        DUE.is("hung on 2", x.hang(0, NONE), 2);
        DUE.is("hung on none", x.hang(0, NONE), NONE);
        DUE.is("in a ring", x.hang(0, 1), NONE);
        DUE.is("in a ring", x.hang(1, 0), NONE);
        DUE.is("on itself", x.hang(1, 1), BAD);
        DUE.is("hang(3, 0)", x.hang(3, 0), BAD);
        DUE.is("hang(-1, 0)", x.hang(-1, 0), BAD);
        DUE.is("hang(0, 3)", x.hang(0, 3), BAD);
        DUE.is("hang(0, -1)", x.hang(0, -1), BAD);
        DUE.is("hang(-9, -9)", x.hang(-9, -9), BAD);
        Due.allSayYes(x);
        x.draw(1);
        DUE.is("one that is OUT, too", x.hang(1, 2), 0);
        DUE.is("on one that is OUT, too", x.hang(2, 1), NONE);
    }

    private static void wedge() {
        DUE.promise("17 wedge");
        DryBargains x = Due.wall("w9 b00AB b02AB b04AB b06AB b10AB b52AB");
        Due.allSayYes(x);
        DUE.is("wedge(6, 1)", x.wedge(6, 1), BAD);
        DUE.is("wedge(-1, 1)", x.wedge(-1, 1), BAD);
        DUE.is("wedge(0, 2)", x.wedge(0, 2), BAD);
        DUE.is("wedge(0, -1)", x.wedge(0, -1), BAD);
        DUE.is("none to take away", x.wedge(0, 0), STATE);
        DUE.is("the first", x.wedge(0, 1), 1);
        DUE.is("one that does not stand", x.wedge(5, 1), 2);
        DUE.is("now it does", x.stands(), Due.bits(0, 1, 2, 3, 4, 5));
        x.wedge(1, 1);
        DUE.is("the fourth", x.wedge(2, 1), 4);
        DUE.is("a fifth", x.wedge(3, 1), FULL);
        DUE.is("STATE ahead of FULL", x.wedge(2, 1), STATE);
        x.draw(4);
        finds(x, "NOTHING ahead of FULL", x.wedge(4, 1), NOTHING);
        finds(x, "NOTHING ahead of STATE", x.wedge(4, 0), NOTHING);
        DUE.is("away", x.wedge(0, 0), 3);
        DUE.is("then one more", x.wedge(3, 1), 4);
        DUE.is("draw(2)", x.draw(2), 1);
        DUE.is("OUT: its WEDGE is lost", x.count(3), 3);
    }

    private static void wedgeAway() {
        DUE.promise("17 wedge, away");
        DryBargains x = Due.wall("w9 b20AB b30AB b00AB");
        x.wedge(0, 1);
        x.wedge(1, 1);
        DUE.is("it would not stand itself", x.wedge(0, 0), STATE);
        DUE.is("this one would", x.wedge(1, 0), 1);
        DUE.is("both would not", x.wedge(0, 0), STATE);
        x.vine(0);
        DUE.is("by the VINE it would", x.wedge(0, 0), 0);
        DryBargains y = Due.wall("w9 b00AB b10AB b20BC b22BC c31CD");
        y.wedge(3, 1);
        DUE.is("one upon it stands by it", y.wedge(3, 0), STATE);
    }

    private static void vine() {
        DUE.promise("18 vine");
        DryBargains x = Due.wall("w9 b00AB b30AB b06AB");
        Due.allSayYes(x);
        DUE.is("vine(3)", x.vine(3), BAD);
        DUE.is("vine(-1)", x.vine(-1), BAD);
        DUE.is("the first", x.vine(0), 1);
        DUE.is("it has it", x.vine(0), STATE);
        DUE.is("one that does not stand", x.vine(1), 2);
        DUE.is("by it it does", x.stands(), 7);
        x.draw(2);
        finds(x, "OUT", x.vine(2), NOTHING);
        DUE.is("so many", x.count(4), 2);
    }
}
