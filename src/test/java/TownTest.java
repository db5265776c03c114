/** Promises 30 to 36: new bricks, who owes whom, who drew in the night, what moved. */
public final class TownTest {
    private static final int BAD = -1, FULL = -2, FINDING = -3, STATE = -4, NONE = -9;
    private static final int NOTHING = 1;
    private static final Due DUE = new Due("TownTest");

    public static void main(String[] args) {
        set();
        setRefused();
        soon();
        soonWithLoad();
        owes();
        rich();
        alone();
        few();
        nightRefused();
        moved();
        DUE.end();
    }

    private static void finds(DryBargains x, String call, int got, int finding) {
        DUE.is(call, got, FINDING);
        DUE.is(call + ", finding()", x.finding(), finding);
    }

    private static void set() {
        DUE.promise("30 set");
        DryBargains x = Due.wall("w6 b00AB b11CD");
        DUE.is("at the foot", x.set(0, 4, 5, 2), 2);
        int[] due = {0, 0, 4, 5, 2, NONE, 1, 0, NONE};
        for (int what = 0; what < 9; what++) {
            x.brick(2, what);
            DUE.is("brick(2, " + what + ")", x.asked(), due[what]);
        }
        DUE.is("upon it, with one HALF", x.set(1, 3, 0, 1), 3);
        DUE.is("upon both", x.set(2, 2, 0, 1), 4);
        DUE.is("BRICKS", x.count(0), 5);
        DUE.is("IN", x.count(1), 5);
        DUE.is("all stand", x.stands(), 31);
        Due.allSayYes(x);
        x.draw(4);
        DUE.is("where one is OUT there is room", x.set(2, 2, 0, 1), 5);
        DUE.is("it bears none", x.load(5), 0);
        DUE.is("an ARCH's order stays", x.load(0), 1);
    }

    private static void setRefused() {
        DUE.promise("30 set, refused");
        DryBargains x = new DryBargains();
        DUE.is("no WALL", x.set(0, 0, 0, 1), STATE);
        int[][] bad = {{-1, 0, 0, 1}, {6, 0, 0, 1}, {0, -1, 0, 1}, {0, 9, 0, 1}, {0, 0, -1, 1},
            {0, 0, 6, 1}, {0, 0, 0, -1}, {0, 0, 0, 6}, {0, 0, 3, 3}};
        for (int[] a : bad) {
            DUE.is("BAD ahead of STATE", x.set(a[0], a[1], a[2], a[3]), BAD);
        }
        Due.write(x, 0, "w9b00ABb02ABb04ABb06ABb10ABb12ABb14ABb16ABb20ABb22ABb24ABb26AB");
        x.wall(0);
        DUE.is("beyond the WALL", x.set(0, 8, 0, 1), STATE);
        DUE.is("taken", x.set(0, 7, 0, 1), STATE);
        DUE.is("taken", x.set(2, 5, 0, 1), STATE);
        DUE.is("it would not stand", x.set(4, 0, 0, 1), STATE);
        DUE.is("refused: nothing changed", x.count(0), 12);
        DUE.is("a thirteenth", x.set(3, 0, 0, 1), 12);
        DUE.is("now it would", x.set(4, 0, 0, 1), 13);
        DUE.is("a fifteenth", x.set(5, 0, 0, 1), FULL);
        DUE.is("FULL ahead of STATE", x.set(0, 0, 0, 1), FULL);
        DUE.is("BAD ahead of FULL", x.set(0, 0, 0, 0), BAD);
        Due.allSayYes(x);
        x.draw(13);
        DUE.is("one that is OUT is one, too", x.set(4, 0, 0, 1), FULL);
        DryBargains y = Due.wall("w2");
        DUE.is("w2", y.set(0, 1, 0, 1), STATE);
        DUE.is("w2", y.set(0, 0, 0, 1), 0);
        DryBargains z = Due.wall("w9 b10AB");
        DUE.is("beneath does not stand", z.set(2, 0, 0, 1), STATE);
        z.wedge(0, 1);
        DUE.is("beneath stands", z.set(2, 0, 0, 1), 1);
    }

    private static void soon() {
        DUE.promise("31 soon");
        DUE.is("no WALL", new DryBargains().soon(), STATE);
        DryBargains x = Due.wall("w4");
        DUE.is("the first place", x.soon(), 0);
        DUE.is("three", x.asked(), 3);
        x.set(0, 0, 0, 1);
        DUE.is("the next HALF", x.soon(), 2);
        DUE.is("at the foot one, upon it two", x.asked(), 3);
        x.set(0, 2, 0, 1);
        DUE.is("the next COURSE", x.soon(), 10);
        DUE.is("three", x.asked(), 3);
        x.set(1, 1, 0, 1);
        DUE.is("upon that", x.soon(), 20);
        DUE.is("three", x.asked(), 3);
        DUE.is("nothing is set by it", x.count(0), 3);
        DUE.is("nothing is set by it", x.count(1), 3);
        DUE.is("nothing is set by it", x.stands(), 7);
        DryBargains y = Due.wall("w2 b00AB b10AB b20AB b30AB b40AB b50AB");
        y.brick(3, 1);
        DUE.is("none", y.soon(), NONE);
        DUE.is("NONE tells none", y.asked(), 3);
        Due.allSayYes(y);
        y.draw(5);
        DUE.is("where one is OUT", y.soon(), 50);
        DUE.is("one", y.asked(), 1);
        DryBargains full = Due.wall("w9b00ABb02ABb04ABb06ABb10ABb12ABb14ABb16ABb20ABb22ABb24ABb26ABb30ABb32AB");
        DUE.is("14", full.soon(), NONE);
        Due.allSayYes(full);
        full.draw(13);
        DUE.is("14, one OUT", full.soon(), NONE);
    }

    private static void soonWithLoad() {
        DUE.promise("31 soon, LOAD");
        DryBargains x = Due.wall("w4 b10AB");
        DUE.is("at 0 and 1 it would have a LOAD", x.soon(), 2);
        DUE.is("one", x.asked(), 1);
        DUE.is("stands()", x.stands(), 0);
        DryBargains y = Due.wall("w4 c10AB b02CD");
        DUE.is("it would bear the CRACKED one, but upon 1 there is room", y.soon(), 12);
        DryBargains z = Due.wall("w9 r10AB b13CD");
        DUE.is("a BRIDGE is not borne by one", z.soon(), 0);
        DUE.is("0, 1; not 2 to 4; 5, 6, 7", z.asked(), 5);
    }

    private static void owes() {
        DUE.promise("32 owes");
        DryBargains x = Due.wall("w9 b00AB b02AB b04BA f06AC t10DAB r12CA b15DA");
        int[][] due = {{0, 1, 1}, {1, 0, -1}, {0, 2, -1}, {2, 0, 1}, {3, 0, 2}, {3, 1, 1}, {1, 3, -1}, {4, 5, 0}, {1, 2, 0}};
        for (int[] d : due) {
            DUE.is("owes(" + d[0] + ", " + d[1] + ")", x.owes(d[0], d[1]), d[2]);
        }
        DUE.is("one and the same", x.owes(1, 1), BAD);
        DUE.is("owes(-1, 0)", x.owes(-1, 0), BAD);
        DUE.is("owes(0, 6)", x.owes(0, 6), BAD);
        DUE.is("owes(6, 0)", x.owes(6, 0), BAD);
        DUE.is("owes(0, -1)", x.owes(0, -1), BAD);
        Due.allSayYes(x);
        x.draw(5);
        DUE.is("only those that are IN", x.owes(2, 0), 0);
        x.heir(1, 0);
        DUE.is("the heir's", x.owes(3, 0), 3);
        DUE.is("none any more", x.owes(3, 1), 0);
        DUE.is("asked() is not told", x.asked(), 0);
    }

    private static void rich() {
        DUE.promise("33 rich");
        DryBargains x = Due.wall("w9 b00AB b02AC b04DC f06AE f10AE f12AE");
        DUE.is("C", x.rich(), 2);
        DUE.is("2", x.asked(), 2);
        Due.allSayYes(x);
        x.draw(2);
        DUE.is("the first of B, C", x.rich(), 1);
        DUE.is("1", x.asked(), 1);
        x.heir(0, 1);
        DUE.is("C is OWED by B", x.rich(), 2);
        DUE.is("1", x.asked(), 1);
        x.draw(5);
        x.draw(1);
        DUE.is("what one OWES oneself is none", x.rich(), 0);
        DUE.is("0", x.asked(), 0);
        DryBargains y = Due.wall("w9 t00ABC b02CA");
        DUE.is("TRIPLE", y.rich(), 1);
        DUE.is("1", y.asked(), 1);
        y.heir(2, 1);
        DUE.is("B of two, less one", y.rich(), 1);
        DUE.is("1", y.asked(), 1);
        DryBargains z = Due.wall("w9 b00FE b02EF b04FE b06DF");
        DUE.is("E 1, F 0", z.rich(), 4);
        DUE.is("no WALL", new DryBargains().rich(), 0);
    }

    private static void alone() {
        DUE.promise("34 alone");
        DryBargains x = Due.wall("w9 b00AB b02BC f04BA t06BCD b10EF");
        int[][] due = {{1, 3, 0}, {2, 6, 0}, {3, 2, 0}, {4, 2, 1}, {5, 2, 1}, {8, 14, 0}, {10, 6, 0}, {15, 2, 1}, {16, 48, 0}, {31, 0, 1}};
        for (int[] d : due) {
            DUE.is("alone(" + d[0] + ")", x.alone(d[0]), d[1]);
            DUE.is("alone(" + d[0] + "), of just one", x.asked(), d[2]);
        }
        Due.allSayYes(x);
        x.draw(4);
        DUE.is("no matter whether it is IN", x.alone(16), 48);
        x.heir(4, 5);
        DUE.is("one twice", x.alone(16), 32);
        DUE.is("of just one", x.asked(), 1);
        x.heir(0, 3);
        DUE.is("a MARK that is none", x.alone(4), 2);
    }

    private static void few() {
        DUE.promise("35 few");
        DryBargains x = Due.wall("w9 b00AB b02CD f04EA t06FCD b10BF");
        int[][] due = {{1, 1, 1}, {2, 1, 4}, {3, 2, 5}, {4, 1, 16}, {5, 2, 17}, {8, 1, 4}, {10, 1, 4}, {17, 1, 2},
            {19, 2, 6}, {31, 3, 22}, {24, 1, 32}};
        for (int[] d : due) {
            DUE.is("few(" + d[0] + ")", x.few(d[0]), d[1]);
            DUE.is("few(" + d[0] + "), who", x.asked(), d[2]);
        }
        DryBargains y = Due.wall("w9 b00FE b02ED b04DF b06CB b10FA f12AF f14BF f16CF");
        DUE.is("few", y.few(7), 2);
        DUE.is("the least bits", y.asked(), Due.bits(3, 4));
        DUE.is("five of six", y.few(255), 5);
        DUE.is("who", y.asked(), Due.bits(0, 1, 2, 3, 4));
        DryBargains z = Due.wall("w9 f00AB f02BA f04CA f06DA f10EA f12FA");
        DUE.is("all six", z.few(63), 6);
        DUE.is("who", z.asked(), 63);
        Due.allSayYes(z);
        z.draw(5);
        DUE.is("no matter whether it is IN", z.few(32), 1);
    }

    private static void nightRefused() {
        DUE.promise("34, 35 refused");
        DryBargains x = Due.wall("w9 b00AB b02BC");
        for (int set : new int[] {0, 4, 5, -1, Integer.MIN_VALUE, Integer.MAX_VALUE}) {
            DUE.is("alone(" + set + ")", x.alone(set), BAD);
            DUE.is("few(" + set + ")", x.few(set), BAD);
        }
        DUE.is("no WALL", new DryBargains().alone(1), BAD);
        DUE.is("no WALL", new DryBargains().few(1), BAD);
    }

    private static void moved() {
        DUE.promise("36 moved");
        DryBargains x = Due.wall("w9 b00AB b02BC b04CD");
        Due.allSayYes(x);
        DUE.is("moved(-1)", x.moved(-1), BAD);
        DUE.is("moved(3)", x.moved(3), BAD);
        finds(x, "moved(0)", x.moved(0), NOTHING);
        x.keep(0);
        DUE.is("nothing", x.moved(0), 0);
        DUE.is("nothing", x.asked(), 0);
        x.draw(1);
        x.keep(2);
        DUE.is("since 0", x.moved(0), 2);
        DUE.is("since 0", x.asked(), 0);
        x.undo();
        x.draw(0);
        x.set(1, 3, 0, 1);
        DUE.is("since 2", x.moved(2), 1);
        DUE.is("since 2", x.asked(), Due.bits(1, 3));
        DUE.is("since 0", x.moved(0), 1);
        DUE.is("since 0", x.asked(), Due.bits(3));
        finds(x, "moved(1)", x.moved(1), NOTHING);
    }
}
