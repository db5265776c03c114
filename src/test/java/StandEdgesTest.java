import java.util.function.Consumer;

/** The boundary cases of what stands and what falls: 'Terms' and promises 19 to 22, 28, 29. */
public final class StandEdgesTest {
    private static final String FOURTEEN = "w9b00ABb02ABb04ABb06ABb10ABb12ABb14ABb16ABb20ABb22ABb24ABb26ABb30ABb32AB";
    private static final String STEPS = "w6 b00AB b02BC b04CD b11DE b13EF";
    private static final Due DUE = new Due("StandEdgesTest");
    private static final Refused BUSY = new Refused(DUE, Busy::make);
    private static final Refused NEW = new Refused(DUE, x -> { });

    public static void main(String[] args) {
        atTheFoot();
        byHalvesOfTwo();
        byHalvesOfThree();
        byWhatStandsBeneath();
        archBetween();
        archAtTheSides();
        archesFirstAndLast();
        byWedge();
        byVine();
        highestCourse();
        standsEmptyAndFull();
        fallsRefused();
        fallsOfNoneAndAll();
        fallsStandNow();
        fallsOfAWhole();
        loadRefused();
        loadOfNoneAndAll();
        greatFirst();
        greatNone();
        restsRefused();
        restsBeneath();
        restsUpon();
        propsRefused();
        propsNone();
        propsMore();
        propsHoweverMany();
        DUE.end();
    }

    private static DryBargains agreed(String wall) {
        DryBargains x = Due.wall(wall);
        Due.allSayYes(x);
        return x;
    }

    private static Refused by(String wall, Consumer<DryBargains> steps) {
        return new Refused(DUE, x -> {
            Due.write(x, 0, wall);
            x.wall(0);
            Due.allSayYes(x);
            steps.accept(x);
        });
    }

    /** Whether the first brick of a wall stands; all others of it do. */
    private static void firstStands(String wall, boolean due) {
        DryBargains x = Due.wall(wall);
        int all = (1 << x.count(0)) - 1;
        DUE.is("stands() of " + wall, x.stands(), due ? all : all & ~1);
        DUE.is("those that do not of " + wall, x.asked(), due ? 0 : 1);
    }

    private static String marks(char kind) {
        return kind == 't' ? "ABC" : "AB";
    }

    // ---- Terms: what stands

    private static void atTheFoot() {
        DUE.promise("at the foot on all");
        for (char kind : "bcft".toCharArray()) {
            firstStands("w2 " + kind + "00" + marks(kind), true);
            firstStands("w9 " + kind + "07" + marks(kind), true);
        }
        for (char kind : "ra".toCharArray()) {
            firstStands("w3 " + kind + "00AB", true);
            firstStands("w9 " + kind + "06AB", true);
        }
    }

    private static void byHalvesOfTwo() {
        DUE.promise("with one of its HALVES or more; CRACKED, if with all");
        for (char kind : "bcft".toCharArray()) {
            boolean cracked = kind == 'c';
            String x = "w9 " + kind + "13" + marks(kind);
            firstStands(x, false);
            firstStands(x + " b01CD b05CD", false);
            firstStands(x + " b02CD", !cracked);
            firstStands(x + " b04CD", !cracked);
            firstStands(x + " b03CD", true);
            firstStands(x + " b02CD b04CD", true);
            firstStands(x + " r03CD", true);
            firstStands(x + " r04CD", !cracked);
            firstStands(x + " r01CD", !cracked);
            firstStands(x + " r00CD", false);
        }
    }

    private static void byHalvesOfThree() {
        DUE.promise("a BRIDGE, if with its first and its last one");
        for (char kind : "ra".toCharArray()) {
            String x = "w9 " + kind + "13AB";
            firstStands(x, false);
            firstStands(x + " b02CD", false);
            firstStands(x + " b03CD", false);
            firstStands(x + " b04CD", false);
            firstStands(x + " b05CD", false);
            firstStands(x + " b01CD b06CD", false);
            firstStands(x + " b02CD b05CD", true);
            firstStands(x + " b03CD b05CD", true);
            firstStands(x + " b02CD b04CD", true);
            firstStands(x + " r03CD", true);
            firstStands(x + " r02CD", false);
            firstStands(x + " r04CD", false);
        }
    }

    private static void byWhatStandsBeneath() {
        DUE.promise("where BRICKS are IN that stand");
        DryBargains x = Due.wall("w9 b10AB b20CD b30EF");
        DUE.is("none stands", x.stands(), 0);
        DUE.is("all three do not", x.asked(), 7);
        DryBargains y = agreed("w9 b00AB b10CD");
        y.wedge(1, 1);
        y.draw(0);
        DUE.is("upon one that is OUT by its WEDGE alone", y.stands(), 2);
        DUE.is("those that are OUT are told by neither", y.asked(), 0);
        DryBargains z = Due.wall("w9 b00AB b20CD");
        DUE.is("two COURSES beneath is none", z.stands(), 1);
        DryBargains up = Due.wall("w9 b10AB b20CD b22EF");
        DUE.is("what is above is none", up.stands(), 0);
    }

    /** A wall where an arch without anything beneath lies between a left and a right neighbour. */
    private static void archBetween() {
        DUE.promise("an ARCH, if on its left and on its right a BRICK that is none of KIND 5 and that stands touches it");
        // with what each letter stands: at its foot, or by a wedge
        String[] left = {"", "b11CD", "r10CD", "c11CD", "f11CD", "t11CDE", "a10CD", "b10CD"};
        String[] right = {"", "b16CD", "r16CD", "c16CD", "f16CD", "t16CDE", "a16CD", "b17CD"};
        for (int l = 0; l < left.length; l++) {
            for (int r = 0; r < right.length; r++) {
                for (int wedges = 0; wedges < 4; wedges++) {
                    archBetween(left[l], right[r], wedges, l > 0 && l < 6 && r > 0 && r < 6 && wedges == 3);
                }
            }
        }
    }

    private static void archBetween(String left, String right, int wedges, boolean due) {
        DryBargains x = Due.wall("w9 a13AB " + left + " " + right);
        int helped = 0;
        int n = x.count(0);
        if (!left.isEmpty() && (wedges & 1) != 0) {
            x.wedge(1, 1);
            helped |= 2;
        }
        if (!right.isEmpty() && (wedges & 2) != 0) {
            x.wedge(n - 1, 1);
            helped |= 1 << n - 1;
        }
        int set = due ? helped | 1 : helped;
        DUE.is("an ARCH between '" + left + "' and '" + right + "', WEDGES " + wedges, x.stands(), set);
        DUE.is("the others", x.asked(), (1 << n) - 1 & ~set);
    }

    private static void archAtTheSides() {
        DUE.promise("an ARCH at either side of the WALL");
        firstStands("w9 a10AB b13CD b03EF", false);
        firstStands("w9 a16AB b14CD b04EF", false);
        firstStands("w5 a12AB b10CD b00EF", false);
        firstStands("w3 a10AB", false);
        firstStands("w7 a12AB b10CD b15CD b00EF b05EF", true);
        firstStands("w9 a12AB b00CD b05CD", false);
    }

    private static void archesFirstAndLast() {
        DUE.promise("COURSE by COURSE from the foot; those that are no ARCHES first");
        firstStands("w9 a12AB b15CD b10CD b05EF b00EF", true);
        firstStands("w9 b22DE a12AB b15CD b10CD b05EF b00EF", true);
        DryBargains x = Due.wall("w9 b10AB a12AB a15AB b00CD");
        DUE.is("an ARCH beside an ARCH", x.stands(), Due.bits(0, 3));
        x.wedge(2, 1);
        DUE.is("though that one stands", x.stands(), Due.bits(0, 2, 3));
        DryBargains y = Due.wall("w9 b25AB b10AB a12AB b15AB b00CD b05CD b20AB a22AB");
        DUE.is("an ARCH upon an ARCH", y.stands(), 255);
    }

    private static void byWedge() {
        DUE.promise("a WEDGE under a BRICK lets it stand, whatever is beneath");
        for (char kind : "bcftra".toCharArray()) {
            DryBargains x = Due.wall("w9 " + kind + "30" + marks(kind) + " b40CD");
            DUE.is("neither", x.stands(), 0);
            x.wedge(0, 1);
            DUE.is("both: 1 RESTS on it", x.stands(), 3);
        }
    }

    private static void byVine() {
        DUE.promise("the VINE on a BRICK lets it stand, whatever is beneath");
        for (char kind : "bcftra".toCharArray()) {
            DryBargains x = Due.wall("w9 " + kind + "30" + marks(kind) + " b40CD");
            x.vine(0);
            DUE.is("both: 1 RESTS on it", x.stands(), 3);
        }
    }

    private static void highestCourse() {
        DUE.promise("COURSES 0 .. 5");
        DryBargains x = Due.wall("w9 b50AB b40AB b30AB b20AB b10AB b00AB");
        DUE.is("all six", x.stands(), 63);
        DUE.is("LOAD of the foot", x.load(5), 5);
        DUE.is("LOAD of the top", x.load(0), 0);
        DUE.is("upon the top", x.rests(0), 2);
        DUE.is("none", x.asked(), 0);
    }

    // ---- 19 stands

    private static void standsEmptyAndFull() {
        DUE.promise("19 stands, none and all");
        DryBargains none = new DryBargains();
        none.row(0, 1);
        none.lay(0, 0, 5);
        none.at(0, 0);
        DUE.is("no WALL", none.stands(), 0);
        DUE.is("no WALL, asked()", none.asked(), 0);
        DUE.is("a WALL of none", Due.wall("w9").stands(), 0);
        DryBargains x = Due.wall(FOURTEEN);
        DUE.is("all fourteen", x.stands(), (1 << 14) - 1);
        DUE.is("all fourteen", x.asked(), 0);
        DryBargains y = Due.wall("w9b10ABb12ABb14ABb16ABb20ABb22ABb24ABb26ABb30ABb32ABb34ABb36ABb40ABb42AB");
        DUE.is("none of fourteen", y.stands(), 0);
        DUE.is("none of fourteen", y.asked(), (1 << 14) - 1);
    }

    // ---- 20 falls

    private static void fallsRefused() {
        DUE.promise("20 falls, BAD; NOTHING: one of it is OUT");
        for (int set : new int[] {1 << Busy.BRICKS, -1, Integer.MIN_VALUE, Integer.MAX_VALUE, 1 << 14, 1 << 30}) {
            BUSY.bad("falls(" + set + ")", x -> x.falls(set));
        }
        BUSY.nothing("just that one", x -> x.falls(1 << Busy.OUT));
        BUSY.nothing("one of it", x -> x.falls(1 << Busy.OUT | 1));
        BUSY.nothing("all", x -> x.falls((1 << Busy.BRICKS) - 1));
        BUSY.bad("BAD ahead of NOTHING", x -> x.falls(1 << Busy.BRICKS | 1 << Busy.OUT));
        BUSY.bad("BAD ahead of NOTHING", x -> x.falls(Integer.MIN_VALUE | 1 << Busy.OUT));
        NEW.bad("no WALL", x -> x.falls(1));
        by(FOURTEEN, x -> { }).bad("a fifteenth", x -> x.falls(1 << 14));
    }

    private static void fallsOfNoneAndAll() {
        DUE.promise("20 falls, a set of none and of all");
        DUE.is("no WALL", new DryBargains().falls(0), 0);
        DryBargains x = Due.wall(FOURTEEN);
        DUE.is("none", x.falls(0), 0);
        DUE.is("all", x.falls((1 << 14) - 1), 0);
        DUE.is("the last", x.falls(1 << 13), 0);
        DUE.is("all but the last", x.falls((1 << 13) - 1), 1 << 13);
        DUE.is("the foot", x.falls(15), (1 << 14) - 16);
        DUE.is("asked() is none of it", x.asked(), 0);
    }

    private static void fallsStandNow() {
        DUE.promise("FALLS: those that are IN, not of it, stand now and do not without it");
        DryBargains x = agreed("w9 b00AB b10CD b20EF b51AB");
        DUE.is("not what did not stand", x.falls(1), 6);
        DUE.is("not what is of it", x.falls(3), 4);
        DUE.is("of one that does not stand", x.falls(8), 0);
        x.draw(2);
        DUE.is("not what is OUT", x.falls(1), 2);
        x.wedge(1, 1);
        DUE.is("not what has a WEDGE", x.falls(1), 0);
        DryBargains y = agreed("w9 b00AB b10CD b20EF");
        y.vine(1);
        DUE.is("not what has the VINE", y.falls(1), 0);
    }

    private static void fallsOfAWhole() {
        DUE.promise("FALLS of a set, exactly");
        DryBargains x = Due.wall(STEPS);
        DUE.is("one of two beneath", x.falls(1), 0);
        DUE.is("the other", x.falls(2), 0);
        DUE.is("both", x.falls(3), 8);
        DryBargains y = Due.wall("w9 b00AB b05CD b10EF a12AB b15BC b22DE");
        DUE.is("an ARCH by what is beside it", y.falls(4), Due.bits(3, 5));
        DUE.is("an ARCH by what is beneath that", y.falls(1), Due.bits(2, 3, 5));
    }

    // ---- 21 load, 22 great

    private static void loadRefused() {
        DUE.promise("21 load, BAD; NOTHING");
        for (int b : Refused.outside(0, Busy.BRICKS - 1)) {
            BUSY.bad("load(" + b + ")", x -> x.load(b));
        }
        BUSY.nothing("OUT", x -> x.load(Busy.OUT));
        NEW.bad("no WALL", x -> x.load(0));
    }

    private static void loadOfNoneAndAll() {
        DUE.promise("21 load, none and all others");
        DryBargains x = Due.wall("w2 b00AB");
        DUE.is("alone", x.load(0), 0);
        DryBargains y = Due.wall("w9 r03AB b12AB b15AB b21AB b24AB b26AB b30AB b32AB b34AB b36AB b40AB b42AB b44AB b46AB");
        DUE.is("all thirteen", y.load(0), 13);
        DUE.is("the last", y.load(13), 0);
        DUE.is("asked() is none of it", y.asked(), 0);
    }

    private static void greatFirst() {
        DUE.promise("22 great, the greatest LOAD of those that are IN (the first)");
        DryBargains x = agreed("w9 b00AB b02AB b10CD b12CD b20EF b22EF");
        DUE.is("the first of two", x.great(), 0);
        DUE.is("its LOAD", x.asked(), 2);
        x.draw(4);
        DUE.is("now the other", x.great(), 1);
        DUE.is("its LOAD", x.asked(), 2);
        DryBargains y = agreed("w9 b20AB b10CD b00EF");
        DUE.is("the last", y.great(), 2);
        DUE.is("its LOAD", y.asked(), 2);
        DryBargains z = agreed("w9 b00AB b02AB b04AB");
        DUE.is("none has any: the first", z.great(), 0);
        DUE.is("0", z.asked(), 0);
        z.draw(0);
        DUE.is("the first that is IN", z.great(), 1);
    }

    private static void greatNone() {
        DUE.promise("22 great, NONE: none is IN");
        by("w9 b00AB b02CD", x -> {
            x.draw(0);
            x.brick(1, 2);
            x.draw(1);
        }).none("all are OUT", DryBargains::great);
        NEW.none("no WALL", DryBargains::great);
        by("w9", x -> { }).none("a WALL of none", DryBargains::great);
        DUE.is("one is IN, though it does not stand", Due.wall("w9 b50AB").great(), 0);
    }

    // ---- 28 rests

    private static void restsRefused() {
        DUE.promise("28 rests, BAD; NOTHING");
        for (int b : Refused.outside(0, Busy.BRICKS - 1)) {
            BUSY.bad("rests(" + b + ")", x -> x.rests(b));
        }
        BUSY.nothing("OUT", x -> x.rests(Busy.OUT));
        NEW.bad("no WALL", x -> x.rests(0));
    }

    private static void rests(DryBargains x, int b, int beneath, int upon) {
        DUE.is("rests(" + b + ")", x.rests(b), beneath);
        DUE.is("rests(" + b + "), asked()", x.asked(), upon);
    }

    private static void restsBeneath() {
        DUE.promise("28 rests, that are IN, stand, and lie under a HALF of a BRICK");
        DryBargains x = agreed("w9 b13AB b02CD b04CD");
        rests(x, 0, Due.bits(1, 2), 0);
        x.draw(1);
        rests(x, 0, Due.bits(2), 0);
        DryBargains side = Due.wall("w9 b13AB b01CD b05CD b03EF");
        rests(side, 0, Due.bits(3), 0);
        DryBargains low = Due.wall("w9 b23AB b13CD");
        rests(low, 0, 0, 0);
        low.wedge(1, 1);
        rests(low, 0, 2, 0);
        rests(Due.wall("w9 b23AB b03CD"), 0, 0, 0);
        rests(Due.wall("w9 r13AB b01CD b03CD b05CD b07CD"), 0, Due.bits(2, 3), 0);
        rests(Due.wall("w9 b03AB"), 0, 0, 0);
    }

    private static void restsUpon() {
        DUE.promise("28 rests, those that are IN and lie upon one of it");
        DryBargains x = agreed("w9 b03AB b12CD b14EF b10AB b16AB b23AB");
        rests(x, 0, 0, Due.bits(1, 2));
        x.draw(1);
        rests(x, 0, 0, Due.bits(2));
        DryBargains low = Due.wall("w9 b13AB r22CD b51EF");
        rests(low, 0, 0, 2);
        rests(Due.wall("w9 b50AB b40CD"), 1, 0, 1);
        rests(Due.wall("w9 b50AB b00CD"), 0, 0, 0);
    }

    // ---- 29 props

    private static void propsRefused() {
        DUE.promise("29 props, BAD; NOTHING");
        for (int b : Refused.outside(0, Busy.BRICKS - 1)) {
            BUSY.bad("props(" + b + ")", x -> x.props(b));
        }
        BUSY.nothing("OUT", x -> x.props(Busy.OUT));
        NEW.bad("no WALL", x -> x.props(0));
    }

    private static void props(DryBargains x, int b, int n, int under) {
        DUE.is("props(" + b + ")", x.props(b), n);
        DUE.is("props(" + b + "), asked()", x.asked(), under);
    }

    private static void propsNone() {
        DUE.promise("29 props, none where it has no FALLS");
        DryBargains x = Due.wall(STEPS);
        for (int b = 0; b < 5; b++) {
            props(x, b, 0, 0);
        }
        props(Due.wall("w9 b50AB b40CD"), 1, 0, 0);
        DryBargains y = Due.wall("w9 b00AB b10CD b20EF");
        y.vine(1);
        props(y, 0, 0, 0);
        DryBargains z = Due.wall("w9 b00AB b10CD b20EF");
        z.wedge(1, 1);
        props(z, 0, 0, 0);
    }

    private static void propsMore() {
        DUE.promise("29 props, the least number of WEDGES more");
        DryBargains x = Due.wall("w9 b00AB b10CD b20EF b30AB");
        props(x, 0, 1, 2);
        props(x, 1, 1, 4);
        props(x, 2, 1, 8);
        props(x, 3, 0, 0);
        DUE.is("no WEDGE comes by it", x.count(3), 0);
        DryBargains y = Due.wall("w9 r03AB b12CD b15CD b22EF b25EF");
        props(y, 0, 2, Due.bits(1, 2));
        y.wedge(2, 1);
        props(y, 0, 1, Due.bits(1));
        DryBargains arch = Due.wall("w9 b00AB b05CD b10EF a12AB b15BC");
        props(arch, 0, 1, Due.bits(2));
        props(arch, 2, 1, Due.bits(3));
        DryBargains cracked = Due.wall("w9 b00AB b02AB c11CD c21EF");
        props(cracked, 0, 1, Due.bits(2));
        props(Due.wall("w9 b10AB b00CD"), 1, 1, Due.bits(0));
        DryBargains both = Due.wall("w9 b02AB b12CD c21EF b10AB b00AB");
        props(both, 0, 1, Due.bits(1));
        props(both, 1, 1, Due.bits(2));
    }

    private static void propsHoweverMany() {
        DUE.promise("29 props, however many there are");
        DryBargains wide = Due.wall("w9 r00AB r03AB r06AB b10CD r12CD r15CD b20EF b22EF b24EF b26EF");
        for (int b : new int[] {0, 2, 3, 6}) {
            wide.wedge(b, 1);
        }
        DUE.is("there are 4", wide.wedge(9, 1), Refused.FULL);
        DUE.is("all that fall without 1", wide.falls(2), Due.bits(4, 5, 7, 8, 9));
        props(wide, 1, 2, Due.bits(4, 5));
    }
}
