/** Promises 37 to 48: frost, odds, years, kept walls, and what is told. */
public final class YearsTest {
    private static final int BAD = -1, FINDING = -3, STATE = -4, SPENT = -6, NONE = -9;
    private static final int NOTHING = 1;
    private static final String STEPS = "w6 b00AB b02BC b04CD b11DE b13EF";
    private static final Due DUE = new Due("YearsTest");

    public static void main(String[] args) {
        frostLots();
        frostFalls();
        frostRefused();
        odds();
        oddsOfKinds();
        oddsRefused();
        go();
        goTouching();
        goSpent();
        keepAndOn();
        onWhole();
        asked();
        count();
        findings();
        digest();
        digestWhole();
        DUE.end();
    }

    private static void finds(DryBargains x, String call, int got, int finding) {
        DUE.is(call, got, FINDING);
        DUE.is(call + ", finding()", x.finding(), finding);
    }

    private static void frostLots() {
        DUE.promise("37 frost, LOTS");
        for (int seed : new int[] {1, 2, 77, 1000003, 2147483646}) {
            for (int c = 0; c <= 12; c++) {
                DryBargains x = Due.wall("w9 b00AB f02AB b04AB b06AB b10AB t12ABC b14AB b16AB");
                Due.allSayYes(x);
                x.draw(6);
                long lot = seed;
                int want = 0;
                for (int b : new int[] {0, 1, 2, 3, 4, 5, 7}) {
                    lot = lot * 48271 % 2147483647;
                    want |= lot % 12 < c && b != 1 && b != 5 ? 1 << b : 0;
                }
                DUE.is("frost(" + seed + ", " + c + ")", x.frost(seed, c), want);
                DUE.is("all rest with all", x.asked(), 0);
                for (int b = 0; b < 8; b++) {
                    x.brick(b, 0);
                    int kind = b == 1 ? 2 : b == 5 ? 3 : want >> b & 1;
                    DUE.is("KIND of " + b, x.asked(), kind);
                }
            }
        }
    }

    private static void frostFalls() {
        DUE.promise("37 frost, what is OUT by it");
        DryBargains x = Due.wall("w9 b00AB b11AB b21AB b40AB b05AB b14AB b24AB");
        x.wedge(5, 1);
        x.hang(4, 1);
        DUE.is("all BRICKS that are IN and of KIND 0", x.frost(5, 12), 127);
        DUE.is("but for 3, that did not stand, and 5, by its WEDGE", x.asked(), Due.bits(1, 2));
        DUE.is("IN", x.count(1), 5);
        DUE.is("those that do not stand", x.stands(), Due.bits(0, 4, 5, 6));
        DUE.is("3 is still IN", x.asked(), Due.bits(3));
        DUE.is("it HANGS on one that is OUT", x.asks(4), 0);
        DUE.is("none was DRAWN", x.undo(), STATE);
        DUE.is("it stays so", x.mark(5, 1), 1);
        DUE.is("none of KIND 0 is left", x.frost(5, 12), 0);
        DryBargains y = Due.wall("w9 b00AB b11AB b20AB");
        y.vine(1);
        y.frost(9, 12);
        DUE.is("the VINE holds", y.asked(), Due.bits(2));
        DUE.is("it has the VINE", y.count(4), 1);
        DUE.is("no WALL", new DryBargains().frost(1, 12), 0);
    }

    private static void frostRefused() {
        DUE.promise("37 frost, refused");
        DryBargains x = Due.wall(STEPS);
        int[][] bad = {{0, 5}, {-1, 5}, {2147483647, 5}, {Integer.MIN_VALUE, 5}, {1, -1}, {1, 13}};
        for (int[] a : bad) {
            DUE.is("frost(" + a[0] + ", " + a[1] + ")", x.frost(a[0], a[1]), BAD);
        }
        DUE.is("the greatest seed", x.frost(2147483646, 0), 0);
    }

    private static void told(DryBargains x, int b, int c, long upper, long lower) {
        DUE.is("odds(" + b + ", " + c + ")", x.odds(b, c), 1);
        DUE.is("odds(" + b + ", " + c + "), upper()", x.upper(), upper);
        DUE.is("odds(" + b + ", " + c + "), lower()", x.lower(), lower);
    }

    private static void odds() {
        DUE.promise("38 odds, 43 upper, 44 lower");
        DryBargains x = Due.wall(STEPS);
        told(x, 0, 7, 1, 1);
        told(x, 3, 0, 1, 1);
        told(x, 3, 1, 143, 144);
        told(x, 3, 6, 3, 4);
        told(x, 3, 11, 23, 144);
        told(x, 3, 12, 0, 1);
        DUE.is("odds change nothing", x.stands(), 31);
        Due.allSayYes(x);
        x.draw(0);
        told(x, 3, 3, 3, 4);
        x.vine(3);
        told(x, 3, 12, 1, 1);
        x.wedge(4, 1);
        told(x, 4, 12, 1, 1);
        DryBargains y = Due.wall("w9 b20AB");
        told(y, 0, 0, 0, 1);
        DryBargains z = Due.wall("w9 b00AB b10AB b20AB");
        told(z, 2, 4, 4, 9);
        z.wedge(1, 1);
        told(z, 2, 4, 2, 3);
    }

    private static void oddsOfKinds() {
        DUE.promise("38 odds, KINDS");
        DryBargains x = Due.wall("w9 b00AB b02AB c11CD r20EF");
        told(x, 2, 3, 9, 16);
        told(x, 3, 3, 0, 1);
        DryBargains y = Due.wall("w9 b00AB b05CD b10EF a12AB b15BC b22DE");
        told(y, 3, 6, 1, 4);
        told(y, 5, 6, 1, 32);
        told(y, 2, 6, 1, 2);
        String nine = "w9 b00AB b02AB b04AB b06AB b10AB b12AB b14AB b16AB b20AB b30AB";
        DryBargains z = Due.wall(nine);
        told(z, 9, 1, 1331, 1728);
        told(z, 9, 6, 1, 8);
        told(z, 9, 11, 1, 1728);
        DryBargains r = Due.wall("w9 r00AB r03AB r06AB r11AB r14AB r22AB");
        told(r, 5, 1, 161051, 248832);
    }

    private static void oddsRefused() {
        DUE.promise("38 odds, refused");
        String ten = "w9 b00AB b02AB b04AB b06AB b10AB b12AB b14AB b16AB b20AB b22AB b30AB b25AB";
        DryBargains x = Due.wall(ten);
        Due.allSayYes(x);
        DUE.is("eleven beneath", x.odds(10, 1), SPENT);
        DUE.is("eight beneath", x.odds(8, 6), 1);
        DUE.is("odds(12, 1)", x.odds(12, 1), BAD);
        DUE.is("odds(-1, 1)", x.odds(-1, 1), BAD);
        DUE.is("odds(0, -1)", x.odds(0, -1), BAD);
        DUE.is("odds(0, 13)", x.odds(0, 13), BAD);
        DUE.is("BAD ahead of SPENT", x.odds(10, 13), BAD);
        DUE.is("refused: nothing is told", x.lower(), 4);
        x.draw(11);
        DUE.is("ten beneath", x.odds(10, 1), SPENT);
        x.draw(9);
        DUE.is("nine beneath", x.odds(10, 12), 1);
        DUE.is("told", x.lower(), 1);
        x.draw(10);
        finds(x, "OUT", x.odds(10, 1), NOTHING);
        DryBargains y = Due.wall(ten);
        Due.allSayYes(y);
        y.draw(10);
        finds(y, "NOTHING ahead of SPENT", y.odds(10, 1), NOTHING);
    }

    private static void go() {
        DUE.promise("39 go");
        DryBargains x = Due.wall("w9 b00AB b02AB b04AB b07AB b11AB");
        DUE.is("none is planted", x.go(3), 0);
        DUE.is("YEAR", x.count(5), 3);
        x.vine(2);
        DUE.is("no YEAR", x.go(0), 1);
        DUE.is("one", x.go(1), 2);
        x.brick(1, 7);
        DUE.is("1 is the least that touches 2", x.asked(), 2);
        DUE.is("0 touches 1", x.go(1), 3);
        x.brick(0, 7);
        DUE.is("0 has it", x.asked(), 2);
        DUE.is("3 touches none", x.go(20), 4);
        x.brick(3, 7);
        DUE.is("3 has it not", x.asked(), 0);
        DUE.is("planted besides", x.vine(3), 5);
        DUE.is("YEAR", x.count(5), 25);
        DUE.is("go(-1)", x.go(-1), BAD);
        DUE.is("go(21)", x.go(21), BAD);
        DUE.is("no WALL", new DryBargains().go(20), 0);
    }

    private static void has(DryBargains x, int... those) {
        for (int b = 0; b < x.count(0); b++) {
            x.brick(b, 7);
            DUE.is("the VINE on " + b, x.asked() / 2, Due.bits(those) >> b & 1);
        }
    }

    private static void goTouching() {
        DUE.promise("39 go, touching");
        DryBargains x = Due.wall("w9 r33AB b52AB b21AB b26AB b36AB b31AB b24AB b44AB b42AB");
        x.vine(0);
        x.go(1);
        has(x, 0, 4);
        x.go(1);
        has(x, 0, 3, 4);
        x.go(1);
        has(x, 0, 3, 4, 5);
        x.go(1);
        has(x, 0, 2, 3, 4, 5);
        x.go(1);
        has(x, 0, 2, 3, 4, 5, 6);
        x.go(2);
        has(x, 0, 2, 3, 4, 5, 6, 7, 8);
        x.go(1);
        has(x, 0, 1, 2, 3, 4, 5, 6, 7, 8);
        DryBargains y = Due.wall("w9 b00AB b03AB b12AB b22CD b50EF");
        Due.allSayYes(y);
        y.draw(2);
        y.vine(0);
        DUE.is("over no hole, not by one that is OUT, not by corners", y.go(9), 1);
        DryBargains right = Due.wall("w9 b00AB b03AB r06AB");
        right.vine(2);
        DUE.is("1 is left of 2 by a hole", right.go(9), 1);
        DryBargains next = Due.wall("w9 b00AB b02AB r04AB b07CD");
        next.vine(2);
        next.go(1);
        has(next, 1, 2);
        next.go(2);
        has(next, 0, 1, 2, 3);
        DryBargains z = Due.wall("w9 b00AB b12AB b10AB b20AB");
        z.vine(0);
        z.go(1);
        has(z, 0, 2);
        z.go(1);
        has(z, 0, 1, 2);
    }

    private static void goSpent() {
        DUE.promise("39 go, SPENT");
        DryBargains x = Due.wall("w9 b00AB");
        for (int i = 0; i < 49; i++) {
            x.go(20);
        }
        DUE.is("YEAR 980", x.count(5), 980);
        x.go(1);
        DUE.is("it would be passed", x.go(20), SPENT);
        DUE.is("refused: no YEAR", x.count(5), 981);
        DUE.is("just to it", x.go(19), 0);
        DUE.is("YEAR 1000", x.count(5), 1000);
        DUE.is("none", x.go(0), 0);
        DUE.is("one", x.go(1), SPENT);
        DUE.is("BAD ahead of SPENT", x.go(21), BAD);
    }

    private static void keepAndOn() {
        DUE.promise("40 keep, 41 on");
        DryBargains x = new DryBargains();
        DUE.is("keep(-1)", x.keep(-1), BAD);
        DUE.is("keep(3)", x.keep(3), BAD);
        DUE.is("no WALL", x.keep(0), STATE);
        DUE.is("on(-1)", x.on(-1), BAD);
        DUE.is("on(3)", x.on(3), BAD);
        finds(x, "on(0)", x.on(0), NOTHING);
        Due.write(x, 0, STEPS);
        x.wall(0);
        Due.allSayYes(x);
        DUE.is("keep(0)", x.keep(0), 5);
        x.draw(3);
        DUE.is("keep(1)", x.keep(1), 4);
        x.draw(4);
        DUE.is("on(1)", x.on(1), 4);
        DUE.is("stands()", x.stands(), Due.bits(0, 1, 2, 4));
        DUE.is("what was DRAWN, too", x.undo(), 3);
        DUE.is("on(0)", x.on(0), 5);
        DUE.is("none was", x.undo(), STATE);
        DUE.is("still kept", x.on(1), 4);
        DUE.is("kept anew", x.keep(0), 4);
        DUE.is("as it is now", x.on(0), 4);
        finds(x, "on(2)", x.on(2), NOTHING);
    }

    private static void onWhole() {
        DUE.promise("41 on, the whole WALL");
        DryBargains x = Due.wall("w9 b00AB b02BC b11CD t07ABC a04DE");
        Due.allSayYes(x);
        x.hang(2, 3);
        x.wedge(2, 1);
        x.vine(0);
        x.go(1);
        x.draw(3);
        x.keep(2);
        long then = x.digest();
        x.undo();
        x.yes(2, 0);
        x.heir(0, 5);
        x.hang(2, 1);
        x.hang(1, 0);
        x.wedge(4, 1);
        x.wedge(2, 0);
        x.go(5);
        x.vine(3);
        x.set(1, 5, 0, 1);
        x.frost(3, 12);
        DUE.is("it is another one", x.digest() == then ? 1 : 0, 0);
        x.row(0, 2);
        x.brick(0, 2);
        DUE.is("on(2)", x.on(2), 4);
        x.tear(0);
        DUE.is("as it was kept", x.digest(), then);
        DUE.is("asked() is none of it", x.asked(), 0);
        DUE.is("BRICKS", x.count(0), 5);
        x.set(1, 5, 4, 5);
        DUE.is("a new one", x.stands(), Due.bits(0, 1, 2, 4, 5));
        DUE.is("a kept WALL does not hear of it", x.on(2), 4);
    }

    private static void asked() {
        DUE.promise("42 asked");
        DryBargains x = Due.wall(STEPS);
        x.row(0, 1);
        x.lay(0, 0, 99);
        x.at(0, 0);
        x.row(0, 1);
        x.load(0);
        x.falls(1);
        x.owes(0, 1);
        x.yes(0, 1);
        x.hang(0, 1);
        x.heir(0, 1);
        x.wedge(0, 1);
        x.vine(0);
        x.go(0);
        x.keep(0);
        x.on(0);
        x.set(2, 2, 0, 1);
        x.odds(3, 3);
        x.mark(0, 3);
        x.draw(9);
        x.undo();
        x.count(0);
        x.findings(1);
        x.digest();
        x.fault(0);
        x.tear(0);
        DUE.is("what at() told", x.asked(), 99);
        DUE.is("again", x.asked(), 99);
    }

    private static void count() {
        DUE.promise("45 count");
        DryBargains x = Due.wall("w9 b00AB b02AB r04AB a10CD");
        Due.allSayYes(x);
        x.wedge(0, 1);
        x.wedge(1, 1);
        x.vine(2);
        x.draw(3);
        x.go(7);
        x.row(0, 0);
        x.row(5, 1);
        x.row(3, 1);
        x.text(3, 0);
        int[] due = {4, 3, 2, 2, 3, 7, 3, 2};
        for (int what = 0; what < 8; what++) {
            DUE.is("count(" + what + ")", x.count(what), due[what]);
        }
        DUE.is("count(-1)", x.count(-1), BAD);
        DUE.is("count(8)", x.count(8), BAD);
    }

    private static void findings() {
        DUE.promise("46 finding, 47 findings");
        DryBargains x = Due.wall("w9 b00AB");
        x.tear(0);
        DUE.is("NOTHING", x.finding(), 1);
        x.row(0, -1);
        x.text(0, -1);
        DUE.is("SIZE", x.finding(), 5);
        x.row(0, 0);
        x.mean(0);
        DUE.is("NOUGHT", x.finding(), 4);
        x.at(0, 0);
        x.at(0, 1);
        x.at(0, -1);
        DUE.is("BEYOND", x.finding(), 2);
        x.mark(0, 1);
        DUE.is("UNLIKE", x.finding(), 3);
        x.row(9, 9);
        x.undo();
        x.row(0, 3);
        DUE.is("still UNLIKE", x.finding(), 3);
        int[] due = {1, 3, 1, 1, 2};
        for (int f = 1; f <= 5; f++) {
            DUE.is("findings(" + f + ")", x.findings(f), due[f - 1]);
        }
        DUE.is("findings(0)", x.findings(0), BAD);
        DUE.is("findings(6)", x.findings(6), BAD);
        DUE.is("findings(-1)", x.findings(-1), BAD);
    }

    private static long mix(long... values) {
        long h = 17;
        for (long v : values) {
            h = 31 * h + v;
        }
        return h;
    }

    private static void digest() {
        DUE.promise("48 digest");
        DryBargains x = new DryBargains();
        DUE.is("new", x.digest(), mix(0, 0, 0, 0, 0, 0, 0, 0, 0, 0, -1, -1, -1, -1, -1, -1, -1, -1, -1, -1, -1, -1, -1));
        x.yes(1, 1);
        x.yes(5, 1);
        x.go(2);
        x.row(1, 2);
        x.lay(1, 1, -7);
        x.row(5, 0);
        x.text(3, 2);
        x.put(3, 1, 200);
        DUE.is("rows, texts", x.digest(), mix(0, 0, 0, 0, 0, 2, 2, 1, 0, 34, -1, -1, -1,
            -1, 2, 0, -7, -1, -1, -1, 0, -1, -1, -1, 2, 32, -56));
        x.tear(1);
        x.tear(5);
        x.row(3, -1);
        DUE.is("findings are none of it", x.digest(), mix(0, 0, 0, 0, 0, 2, 0, 1, 0, 34, -1, -1, -1,
            -1, -1, -1, -1, -1, -1, -1, -1, -1, 2, 32, -56));
    }

    private static void digestWhole() {
        DUE.promise("48 digest, a WALL");
        DryBargains x = Due.wall("w9 b00AB t02BCD r10EF");
        Due.allSayYes(x);
        x.keep(1);
        x.wedge(0, 1);
        x.vine(0);
        x.hang(1, 2);
        x.draw(2);
        x.draw(1);
        x.text(0, 0);
        DUE.is("a WALL", x.digest(), mix(3, 1, 1, 1, 1, 0, 0, 1, 9, 63,
            0, 0, 0, 0, 1, NONE, 1, 3, NONE,
            3, 0, 2, 1, 2, 3, 0, 0, 2,
            4, 1, 0, 4, 5, NONE, 0, 0, NONE,
            2, 1, -1, 7, -1, -1, -1, -1, -1, -1, -1, 0, -1, -1, -1));
    }
}
