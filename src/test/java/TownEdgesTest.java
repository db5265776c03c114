import java.util.function.Consumer;

/** The boundary cases of promises 30 to 36: new bricks, who owes whom, the night, what moved. */
public final class TownEdgesTest {
    private static final int NONE = -9;
    private static final String FOURTEEN = "w9b00ABb02ABb04ABb06ABb10ABb12ABb14ABb16ABb20ABb22ABb24ABb26ABb30ABb32AB";
    private static final Due DUE = new Due("TownEdgesTest");
    private static final Refused BUSY = new Refused(DUE, Busy::make);
    private static final Refused NEW = new Refused(DUE, x -> { });

    public static void main(String[] args) {
        setRefused();
        setOrder();
        setFull();
        setWithin();
        setTaken();
        setWhereOneIsOut();
        setStanding();
        setTellsItsNumber();
        setIsNew();
        setBears();
        soonRefused();
        soonNone();
        soonPlaces();
        soonWithoutLoad();
        soonLikeSet();
        owesRefused();
        owesLess();
        owesByKind();
        owesByHeirs();
        richFirst();
        richByAllOthers();
        aloneRefused();
        aloneWho();
        aloneOfJustOne();
        fewRefused();
        fewFewest();
        fewLeast();
        movedRefused();
        movedBothWays();
        movedOfEachPlace();
        DUE.end();
    }

    private static DryBargains agreed(String wall) {
        DryBargains x = Due.wall(wall);
        Due.allSayYes(x);
        return x;
    }

    private static Refused by(String wall, Consumer<DryBargains> steps) {
        return new Refused(DUE, x -> {
            Due.write(x, 0, wall);
            x.wall(0);
            Due.allSayYes(x);
            steps.accept(x);
        });
    }

    private static int[][] badSets() {
        int[][] bad = new int[17][];
        int n = 0;
        for (int course : Refused.outside(0, 5)) {
            bad[n++] = new int[] {course, 0, 0, 1};
        }
        for (int half : Refused.outside(0, 8)) {
            bad[n++] = new int[] {0, half, 0, 1};
        }
        for (int p : Refused.outside(0, 5)) {
            bad[n++] = new int[] {0, 0, p, 1};
            bad[n++] = new int[] {0, 0, 1, p};
        }
        bad[n] = new int[] {0, 0, 3, 3};
        return bad;
    }

    // ---- 30 set

    private static void setRefused() {
        DUE.promise("30 set, BAD: COURSE 0 .. 5, HALF 0 .. 8; unlike PEOPLE");
        Refused room = by("w9", x -> { });
        for (int[] a : badSets()) {
            room.bad("set(" + java.util.Arrays.toString(a) + ")", x -> x.set(a[0], a[1], a[2], a[3]));
        }
        for (int p = 0; p < 6; p++) {
            int one = p;
            room.bad("one and the same", x -> x.set(0, 0, one, one));
        }
        DryBargains x = Due.wall("w9");
        DUE.is("the least of all", x.set(0, 0, 0, 5), 0);
        DUE.is("the greatest of PEOPLE", x.set(0, 2, 5, 0), 1);
        by("w9", y -> { }).state("HALF 8 is one, but it would not lie within", y -> y.set(0, 8, 0, 1));
        DryBargains high = Due.wall("w9 b47AB");
        high.wedge(0, 1);
        DUE.is("the highest COURSE, the last HALF that it can have", high.set(5, 7, 0, 1), 1);
    }

    private static void setOrder() {
        DUE.promise("30 set, BAD, then FULL, then STATE");
        Refused full = by(FOURTEEN, x -> { });
        for (int[] a : badSets()) {
            String call = "set(" + java.util.Arrays.toString(a) + ")";
            NEW.bad(call + ", no WALL", x -> x.set(a[0], a[1], a[2], a[3]));
            full.bad(call + ", 14", x -> x.set(a[0], a[1], a[2], a[3]));
        }
        full.full("where there is room", x -> x.set(3, 4, 0, 1));
        full.full("FULL ahead of STATE: taken", x -> x.set(0, 0, 0, 1));
        full.full("FULL ahead of STATE: not within", x -> x.set(0, 8, 0, 1));
        full.full("FULL ahead of STATE: not standing", x -> x.set(5, 0, 0, 1));
        NEW.state("no WALL", x -> x.set(0, 0, 0, 1));
    }

    private static void setFull() {
        DUE.promise("30 set, FULL: 14");
        DryBargains x = agreed(FOURTEEN.substring(0, 67));
        DUE.is("the fourteenth", x.set(3, 2, 0, 1), 13);
        DUE.is("a fifteenth", x.set(3, 4, 0, 1), Refused.FULL);
        DUE.is("draw(13)", x.draw(13), 1);
        DUE.is("one that is OUT is one of them", x.set(3, 4, 0, 1), Refused.FULL);
        DryBargains none = Due.wall("w9");
        for (int i = 0; i < 14; i++) {
            DUE.is("from none", none.set(i / 4, i % 4 * 2, 0, 1), i);
        }
        DUE.is("a fifteenth", none.set(3, 4, 0, 1), Refused.FULL);
    }

    private static void setWithin() {
        DUE.promise("30 set, STATE: it would not lie within it");
        for (int width = 2; width <= 9; width++) {
            for (int half = 0; half <= 8; half++) {
                int at = half;
                if (half + 2 > width) {
                    by("w" + width, x -> { }).state("w" + width + " at " + half, x -> x.set(0, at, 0, 1));
                } else {
                    DUE.is("w" + width + " at " + half, Due.wall("w" + width).set(0, half, 0, 1), 0);
                }
            }
        }
    }

    private static void setTaken() {
        DUE.promise("30 set, STATE: its place is taken");
        String[] walls = {"w9 b03AB", "w9 r03AB", "w9 a03AB", "w9 t03ABC"};
        for (String wall : walls) {
            int size = wall.charAt(3) == 'r' || wall.charAt(3) == 'a' ? 3 : 2;
            for (int half = 0; half <= 7; half++) {
                int at = half;
                if (half + 2 > 3 && half < 3 + size) {
                    by(wall, x -> { }).state(wall + " at " + half, x -> x.set(0, at, 0, 1));
                } else {
                    DUE.is(wall + " at " + half, Due.wall(wall).set(0, half, 0, 1), 1);
                }
            }
            DUE.is("in the next COURSE", Due.wall(wall).set(1, 3, 0, 1), 1);
        }
        by("w9 b53AB b43CD", x -> x.wedge(1, 1)).state("by one that has not to stand", x -> x.set(5, 4, 0, 1));
    }

    private static void setWhereOneIsOut() {
        DUE.promise("30 set, where one is OUT");
        DryBargains x = agreed("w9 b03AB");
        x.draw(0);
        DUE.is("its place is free", x.set(0, 3, 4, 5), 1);
        DUE.is("now it is taken", x.set(0, 3, 4, 5), Refused.STATE);
    }

    private static void setStanding() {
        DUE.promise("30 set, STATE: it would not stand");
        by("w9", x -> { }).state("none beneath", x -> x.set(1, 0, 0, 1));
        for (int half = 0; half <= 7; half++) {
            int at = half;
            if (half < 2 || half > 4) {
                by("w9 b03AB", x -> { }).state("not upon it, at " + half, x -> x.set(1, at, 0, 1));
            } else {
                DUE.is("with a HALF or more, at " + half, Due.wall("w9 b03AB").set(1, half, 0, 1), 1);
            }
        }
        by("w9 b13AB", x -> { }).state("beneath does not stand", x -> x.set(2, 3, 0, 1));
        by("w9 b03AB", x -> x.draw(0)).state("beneath is OUT", x -> x.set(1, 3, 0, 1));
        by("w9 b03AB", x -> { }).state("two COURSES above", x -> x.set(2, 3, 0, 1));
    }

    private static void setTellsItsNumber() {
        DUE.promise("30 set, its number");
        DryBargains x = new DryBargains();
        Busy.make(x);
        DUE.is("the next one", x.set(4, 3, 0, 1), Busy.BRICKS);
        DUE.is("BRICKS", x.count(0), Busy.BRICKS + 1);
        DUE.is("asked() is none of it", x.asked(), -3);
    }

    private static void setIsNew() {
        DUE.promise("30 set, a new BRICK of KIND 0 of two MARKS");
        DryBargains x = agreed("w9 b00AB");
        x.keep(0);
        DUE.is("set", x.set(1, 0, 2, 3), 1);
        x.wedge(1, 1);
        x.vine(1);
        x.hang(1, 0);
        x.frost(1, 12);
        x.on(0);
        DUE.is("set anew", x.set(1, 1, 5, 4), 1);
        int[] due = {0, 1, 1, 5, 4, NONE, 1, 0, NONE};
        for (int what = 0; what <= 8; what++) {
            DUE.is("brick(1, " + what + ")", x.brick(1, what), 1);
            DUE.is("brick(1, " + what + "), asked()", x.asked(), due[what]);
        }
        DryBargains t = agreed("w9 t00ABC");
        t.keep(0);
        Due.write(t, 1, "w9 t00ABC t02ABC");
        t.wall(1);
        Due.write(t, 1, "w9");
        t.wall(1);
        t.set(0, 0, 3, 4);
        t.brick(0, 5);
        DUE.is("no third MARK", t.asked(), NONE);
    }

    private static void setBears() {
        DUE.promise("30 set, it bears and is borne like the others");
        DryBargains x = agreed("w9 b10AB a12AB b15AB b20CD b00EF");
        DUE.is("those that stand", x.stands(), Due.bits(0, 3, 4));
        DUE.is("beneath", x.set(0, 5, 0, 1), 5);
        DUE.is("all stand: the ARCH after what is beside it", x.stands(), 63);
        DUE.is("its LOAD", x.load(5), 2);
        DUE.is("draw", x.draw(5), Refused.STATE);
    }

    // ---- 31 soon

    private static void soonRefused() {
        DUE.promise("31 soon, STATE: no WALL");
        NEW.state("no WALL", DryBargains::soon);
        new Refused(DUE, x -> Due.write(x, 0, "w9")).state("a TEXT is no WALL", DryBargains::soon);
    }

    private static void soonNone() {
        DUE.promise("31 soon, NONE: none");
        by("w2 b00AB b10AB b20AB b30AB b40AB b50AB", x -> x.brick(3, 1)).none("all places are taken", DryBargains::soon);
        by(FOURTEEN, x -> x.brick(3, 2)).none("14", DryBargains::soon);
        by(FOURTEEN, x -> {
            x.brick(3, 2);
            x.draw(13);
        }).none("14, one of which is OUT", DryBargains::soon);
    }

    private static void soon(DryBargains x, int place, int places) {
        DUE.is("soon()", x.soon(), place);
        DUE.is("soon(), asked()", x.asked(), places);
    }

    private static void soonPlaces() {
        DUE.promise("31 soon, the first place (by COURSES, then HALVES; as 10 times the COURSE and the HALF)");
        for (int width = 2; width <= 9; width++) {
            soon(Due.wall("w" + width), 0, width - 1);
        }
        soon(Due.wall("w9 b00AB b02AB b04AB b06AB"), 10, 8);
        soon(Due.wall("w9 b00AB b02AB b04AB"), 6, 2 + 6);
        soon(Due.wall("w9 b00AB b02AB b05AB"), 7, 1 + 7);
        DryBargains top = Due.wall("w9 b47AB b50AB");
        top.wedge(0, 1);
        Due.allSayYes(top);
        soon(top, 0, 10);
        soon(Due.wall("w2 b00AB b10AB b20AB b30AB b40AB"), 50, 1);
        soon(Due.wall("w4 b00AB b02AB b10AB b12AB b20AB b22AB b30AB b32AB b40AB b42AB b50AB"), 52, 1);
        soon(Due.wall("w9 b00AB b02AB b04AB b06AB b10AB b12AB b14AB b16AB b20AB b22AB b24AB b26AB b30AB"), 32, 6 + 2);
    }

    private static void soonWithoutLoad() {
        DUE.promise("31 soon, so that it has no LOAD");
        soon(Due.wall("w4 b10AB"), 2, 1);
        soon(Due.wall("w4 b11AB"), NONE, 0);
        soon(Due.wall("w4 c11AB"), 0, 2);
        soon(Due.wall("w4 c11AB b02CD"), NONE, 0);
        soon(Due.wall("w6 c11AB b02CD"), 4, 2);
        DryBargains wedged = Due.wall("w4 b10AB");
        wedged.wedge(0, 1);
        soon(wedged, 0, 3 + 2);
        soon(Due.wall("w9 b10AB b15AB a12CD b05EF"), 2, 3 + 3);
    }

    /** Each place that soon counts, and no other, takes a brick that bears none. */
    private static void soonLikeSet() {
        DUE.promise("31 soon, where set() would set one");
        String[] walls = {"w9 b00AB b05CD b10EF a12AB b15BC b22DE", "w8 b10AB r12AB a15CD", "w5 c10AB r12AB b51EF",
            "w9 r10AB b13CD b24EF a40AB", Busy.WALL};
        for (String wall : walls) {
            int first = NONE;
            int n = 0;
            for (int course = 0; course < 6; course++) {
                for (int half = 0; half < 9; half++) {
                    DryBargains x = Due.wall(wall);
                    int b = x.set(course, half, 0, 1);
                    if (b >= 0 && x.load(b) == 0) {
                        first = n == 0 ? 10 * course + half : first;
                        n++;
                    }
                }
            }
            DryBargains x = Due.wall(wall);
            long before = x.digest();
            soon(x, first, n);
            DUE.is("nothing is set by it", x.digest(), before);
        }
    }

    // ---- 32 owes

    private static void owesRefused() {
        DUE.promise("32 owes, BAD: also one and the same");
        for (int p : Refused.outside(0, 5)) {
            BUSY.bad("owes(" + p + ", 0)", x -> x.owes(p, 0));
            BUSY.bad("owes(0, " + p + ")", x -> x.owes(0, p));
        }
        for (int p = 0; p < 6; p++) {
            int one = p;
            BUSY.bad("one and the same", x -> x.owes(one, one));
        }
        DUE.is("no WALL", new DryBargains().owes(0, 5), 0);
        DUE.is("no WALL", new DryBargains().owes(5, 0), 0);
    }

    private static void owesBothWays(DryBargains x, int p, int q, int due) {
        DUE.is("owes(" + p + ", " + q + ")", x.owes(p, q), due);
        DUE.is("owes(" + q + ", " + p + ")", x.owes(q, p), -due);
    }

    private static void owesLess() {
        DUE.promise("32 owes, less what that one OWES the first");
        DryBargains most = Due.wall(FOURTEEN);
        owesBothWays(most, 0, 1, 14);
        owesBothWays(Due.wall("w9 b00AF b02FA"), 0, 5, 0);
        owesBothWays(Due.wall("w9 b00AF b02FA b04FA"), 5, 0, 1);
        DryBargains x = agreed("w9 b00AB b02AB");
        x.draw(0);
        owesBothWays(x, 0, 1, 1);
        x.draw(1);
        owesBothWays(x, 0, 1, 0);
        x.undo();
        owesBothWays(x, 0, 1, 1);
        owesBothWays(Due.wall("w9 b50AB"), 0, 1, 1);
        DUE.is("asked() is none of it", x.asked(), 0);
    }

    private static void owesByKind() {
        DUE.promise("OWED: FALSE: nobody; TRIPLE: to the third one, too");
        for (char kind : "bcra".toCharArray()) {
            owesBothWays(Due.wall("w9 " + kind + "00CE"), 2, 4, 1);
        }
        owesBothWays(Due.wall("w9 f00CE"), 2, 4, 0);
        DryBargains t = Due.wall("w9 t00CEA");
        owesBothWays(t, 2, 4, 1);
        owesBothWays(t, 2, 0, 1);
        owesBothWays(t, 4, 0, 0);
    }

    private static void owesByHeirs() {
        DUE.promise("OWED by heirs: one twice");
        DryBargains t = Due.wall("w9 t00CEA");
        t.heir(0, 4);
        owesBothWays(t, 2, 4, 2);
        t.heir(2, 4);
        owesBothWays(t, 2, 4, 0);
        DryBargains first = Due.wall("w9 t00CEA");
        first.heir(4, 2);
        owesBothWays(first, 2, 0, 1);
        owesBothWays(first, 4, 2, 0);
    }

    // ---- 33 rich

    private static void rich(DryBargains x, int who, int much) {
        DUE.is("rich()", x.rich(), who);
        DUE.is("rich(), asked()", x.asked(), much);
    }

    private static void richFirst() {
        DUE.promise("33 rich, the one who is OWED most (the first)");
        DryBargains none = new DryBargains();
        none.row(0, 1);
        none.lay(0, 0, 4);
        none.at(0, 0);
        rich(none, 0, 0);
        rich(Due.wall("w9"), 0, 0);
        rich(Due.wall("w9 b00AB b02AF"), 1, 1);
        rich(Due.wall("w9 b00AF b02AB"), 1, 1);
        rich(Due.wall("w9 b00AF b02AB b04CF"), 5, 2);
        rich(Due.wall("w9 b00FA b02FE"), 0, 1);
        rich(Due.wall("w9 b00AB b02BA"), 0, 0);
        rich(Due.wall("w9 f00AB f02AB"), 0, 0);
        rich(Due.wall(FOURTEEN), 1, 14);
    }

    private static void richByAllOthers() {
        DUE.promise("33 rich, less what that one OWES, by all others together");
        rich(Due.wall("w9 b00AB b02CB b04BD"), 1, 1);
        rich(Due.wall("w9 b00AB b02CB b04BD b06BE"), 3, 1);
        DryBargains x = agreed("w9 b00AB b02CB b04DB b06EF");
        rich(x, 1, 3);
        x.draw(0);
        x.draw(1);
        rich(x, 1, 1);
        x.draw(2);
        rich(x, 5, 1);
        x.heir(4, 5);
        rich(x, 0, 0);
        rich(Due.wall("w9 t00ABC t02ACB"), 1, 2);
    }

    // ---- 34 alone, 35 few

    private static void aloneRefused() {
        DUE.promise("34 alone, BAD: also none in it");
        for (int set : new int[] {0, 1 << Busy.BRICKS, -1, Integer.MIN_VALUE, Integer.MAX_VALUE, 1 << 14, 1 << 30}) {
            BUSY.bad("alone(" + set + ")", x -> x.alone(set));
        }
        NEW.bad("no WALL, none", x -> x.alone(0));
        NEW.bad("no WALL", x -> x.alone(1));
        by(FOURTEEN, x -> { }).bad("a fifteenth", x -> x.alone(1 << 14));
    }

    private static void alone(DryBargains x, int set, int who, int ofOne) {
        DUE.is("alone(" + set + ")", x.alone(set), who);
        DUE.is("alone(" + set + "), asked()", x.asked(), ofOne);
    }

    private static void aloneWho() {
        DUE.promise("34 alone, all those who have a MARK of each of them that is one, no matter whether it is IN");
        DryBargains all = agreed(FOURTEEN);
        alone(all, (1 << 14) - 1, 3, 0);
        alone(all, 1 << 13, 3, 0);
        all.draw(13);
        alone(all, 1 << 13, 3, 0);
        alone(all, 1 << 13 | 1, 3, 0);
        DryBargains x = Due.wall("w9 b00AF t02FEA f04FA b06BC");
        alone(x, 1, 33, 0);
        alone(x, 2, 49, 0);
        alone(x, 3, 33, 0);
        alone(x, 4, 32, 1);
        alone(x, 7, 32, 1);
        alone(x, 9, 0, 0);
        alone(x, 15, 0, 1);
    }

    private static void aloneOfJustOne() {
        DUE.promise("34 alone, how many BRICKS of it have MARKS (that are) of just one");
        DryBargains x = Due.wall("w9 b00AB f02AB f04BC t06ABC");
        alone(x, 15, 0, 2);
        alone(x, 6, 0, 2);
        alone(x, 3, 1, 1);
        x.heir(0, 1);
        alone(x, 15, 2, 3);
        x.heir(2, 1);
        alone(x, 15, 2, 4);
        alone(x, 8, 2, 1);
    }

    private static void fewRefused() {
        DUE.promise("35 few, BAD: also none in it");
        for (int set : new int[] {0, 1 << Busy.BRICKS, -1, Integer.MIN_VALUE, Integer.MAX_VALUE, 1 << 14, 1 << 30}) {
            BUSY.bad("few(" + set + ")", x -> x.few(set));
        }
        NEW.bad("no WALL, none", x -> x.few(0));
        NEW.bad("no WALL", x -> x.few(1));
        by(FOURTEEN, x -> { }).bad("a fifteenth", x -> x.few(1 << 14));
    }

    private static void few(DryBargains x, int set, int n, int who) {
        DUE.is("few(" + set + ")", x.few(set), n);
        DUE.is("few(" + set + "), asked()", x.asked(), who);
    }

    private static void fewFewest() {
        DUE.promise("35 few, the fewest PEOPLE who together have a MARK (that is one) of each");
        DryBargains all = agreed(FOURTEEN);
        few(all, (1 << 14) - 1, 1, 1);
        all.draw(13);
        few(all, 1 << 13, 1, 1);
        DryBargains six = Due.wall("w9 f00AB f02BC f04CD f06DE f10EF f12FA");
        for (int n = 1; n <= 6; n++) {
            few(six, (1 << n) - 1, n, (1 << n) - 1);
        }
        few(six, 32, 1, 32);
        six.heir(5, 4);
        few(six, 63, 5, 31);
        few(Due.wall("w9 t00DEF f02FA"), 3, 1, 32);
        few(Due.wall("w9 t00DEF f02AF"), 3, 2, 9);
    }

    private static void fewLeast() {
        DUE.promise("35 few, who (bits; the least)");
        few(Due.wall("w9 b00FE"), 1, 1, 16);
        few(Due.wall("w9 b00EF"), 1, 1, 16);
        few(Due.wall("w9 b00AF b02BE"), 3, 2, 3);
        few(Due.wall("w9 b00AF b02BF b04AB"), 7, 2, 3);
        few(Due.wall("w9 b00CF b02DF b04EF b06AB"), 15, 2, 33);
        few(Due.wall("w9 b00CF b02DF b04EF b06AB b10CD b12DE b14CE"), 127, 4, 29);
    }

    // ---- 36 moved

    private static void movedRefused() {
        DUE.promise("36 moved, BAD; NOTHING");
        for (int k : Refused.outside(0, 2)) {
            BUSY.bad("moved(" + k + ")", x -> x.moved(k));
        }
        BUSY.nothing("not kept", x -> x.moved(Busy.NOT_KEPT));
        for (int k = 0; k < 3; k++) {
            int place = k;
            NEW.nothing("no WALL", x -> x.moved(place));
            new Refused(DUE, x -> {
                Busy.make(x);
                x.keep(0);
                x.wall(Busy.WALL_TEXT);
            }).nothing("a WALL anew", x -> x.moved(place));
        }
    }

    private static void moved(DryBargains x, int k, int gone, int come) {
        DUE.is("moved(" + k + ")", x.moved(k), gone);
        DUE.is("moved(" + k + "), asked()", x.asked(), come);
    }

    private static void movedBothWays() {
        DUE.promise("36 moved, that were IN then and are not now; that are IN now and were not then");
        DryBargains x = agreed("w9 b00AB b02CD b04EF b11AC");
        x.draw(3);
        x.keep(0);
        moved(x, 0, 0, 0);
        x.undo();
        moved(x, 0, 0, 8);
        x.draw(2);
        moved(x, 0, 4, 8);
        x.set(0, 4, 0, 1);
        moved(x, 0, 4, 24);
        x.frost(1, 12);
        DUE.is("none fell", x.asked(), 0);
        x.yes(0, 0);
        x.hang(0, 1);
        moved(x, 0, 4, 24);
        x.on(0);
        moved(x, 0, 0, 0);
        DryBargains all = agreed("w9 b00AB b11CD");
        all.keep(2);
        all.frost(1, 12);
        moved(all, 2, 2, 0);
        all.draw(0);
        moved(all, 2, 3, 0);
    }

    private static void movedOfEachPlace() {
        DUE.promise("36 moved, places 0 .. 2");
        DryBargains x = agreed("w9 b00AB b02CD b04EF");
        for (int k = 0; k < 3; k++) {
            x.keep(k);
            x.draw(k);
        }
        moved(x, 0, 7, 0);
        moved(x, 1, 6, 0);
        moved(x, 2, 4, 0);
        x.keep(0);
        x.undo();
        moved(x, 0, 0, 4);
        moved(x, 2, 0, 0);
    }
}
