import java.util.function.Consumer;

/** The boundary cases of promises 37 to 41: frost, odds, years, kept walls. */
public final class YearEdgesTest {
    private static final int GREATEST_SEED = 2147483646;
    private static final String FOURTEEN = "w9b00ABb02ABb04ABb06ABb10ABb12ABb14ABb16ABb20ABb22ABb24ABb26ABb30ABb32AB";
    /** The last one rests on the nine others, and on each of them with need. */
    private static final String PYRAMID = "w9 b00AB b02AB b04AB b06AB c11AB c13AB c15AB c22AB c24AB c33AB";
    private static final Due DUE = new Due("YearEdgesTest");
    private static final Refused BUSY = new Refused(DUE, Busy::make);
    private static final Refused NEW = new Refused(DUE, x -> { });

    public static void main(String[] args) {
        frostRefused();
        frostLots();
        frostNoneAndAll();
        frostOfKinds();
        frostOfThoseThatAreIn();
        frostWhatIsOut();
        frostOverAndOver();
        oddsRefused();
        oddsOrder();
        oddsSpent();
        oddsNeverAndAlways();
        oddsInLowestTerms();
        oddsGreatest();
        oddsOthersAsTheyAre();
        goRefused();
        goSpent();
        goNoneAndTwenty();
        goOneInEach();
        goLeastNumber();
        goTouching();
        goOnlyThoseThatAreIn();
        keepRefused();
        keepCounts();
        keepAnew();
        onRefused();
        onAsItWasKept();
        onWhatWasDrawn();
        onLeavesTheRest();
        onOverAndOver();
        DUE.end();
    }

    private static DryBargains agreed(String wall) {
        DryBargains x = Due.wall(wall);
        Due.allSayYes(x);
        return x;
    }

    private static Refused by(String wall, Consumer<DryBargains> steps) {
        return new Refused(DUE, x -> {
            Due.write(x, 0, wall);
            x.wall(0);
            Due.allSayYes(x);
            steps.accept(x);
        });
    }

    // ---- 37 frost

    private static void frostRefused() {
        DUE.promise("37 frost, a seed (1 .. 2147483646), c (0 .. 12)");
        for (int seed : Refused.outside(1, GREATEST_SEED)) {
            BUSY.bad("frost(" + seed + ", 12)", x -> x.frost(seed, 12));
            BUSY.bad("frost(" + seed + ", 0)", x -> x.frost(seed, 0));
        }
        for (int c : Refused.outside(0, 12)) {
            BUSY.bad("frost(1, " + c + ")", x -> x.frost(1, c));
            BUSY.bad("frost(2147483646, " + c + ")", x -> x.frost(GREATEST_SEED, c));
        }
        NEW.bad("no WALL", x -> x.frost(0, 1));
        DUE.is("no WALL", new DryBargains().frost(1, 12), 0);
        DUE.is("no WALL", new DryBargains().frost(GREATEST_SEED, 0), 0);
    }

    /** By 48271 times it modulo 2147483647, with numbers of any size. */
    private static int lot(int seed, int times) {
        java.math.BigInteger n = java.math.BigInteger.valueOf(seed);
        java.math.BigInteger factor = java.math.BigInteger.valueOf(48271).pow(times);
        return n.multiply(factor).mod(java.math.BigInteger.valueOf(2147483647)).intValueExact();
    }

    private static void frostLots() {
        DUE.promise("37 frost, a number: it modulo 12 below c");
        DUE.is("the first from seed 1", lot(1, 1) % 12, 7);
        DUE.is("below 7", Due.wall("w2 b00AB").frost(1, 7), 0);
        DUE.is("below 8", Due.wall("w2 b00AB").frost(1, 8), 1);
        for (int seed : new int[] {1, 2, 44488, 44489, 1073741824, GREATEST_SEED - 1, GREATEST_SEED}) {
            for (int b = 0; b < 14; b++) {
                int rest = lot(seed, b + 1) % 12;
                DUE.is("seed " + seed + ", c is its rest", Due.wall(FOURTEEN).frost(seed, rest) >> b & 1, 0);
                DUE.is("seed " + seed + ", c is above its rest", Due.wall(FOURTEEN).frost(seed, rest + 1) >> b & 1, 1);
            }
        }
    }

    private static void frostNoneAndAll() {
        DUE.promise("37 frost, c 0 and 12");
        for (int seed : new int[] {1, 777, GREATEST_SEED}) {
            DryBargains x = Due.wall(FOURTEEN);
            long before = x.digest();
            DUE.is("none by 0", x.frost(seed, 0), 0);
            DUE.is("none is OUT", x.asked(), 0);
            DUE.is("nothing is another", x.digest(), before);
            DUE.is("all by 12", x.frost(seed, 12), (1 << 14) - 1);
            DUE.is("all rest with all", x.asked(), 0);
            DUE.is("all are IN", x.count(1), 14);
        }
    }

    private static void frostOfKinds() {
        DUE.promise("37 frost, CRACKED, if it is of KIND 0 (it stays so)");
        DryBargains x = Due.wall("w9 b00AB c02BC f04CD t06DEF r10EF a13FA b16AB");
        DUE.is("those of KIND 0", x.frost(1, 12), Due.bits(0, 6));
        int[] due = {1, 1, 2, 3, 4, 5, 1};
        for (int b = 0; b < 7; b++) {
            x.brick(b, 0);
            DUE.is("KIND of " + b, x.asked(), due[b]);
        }
        DUE.is("none any more", x.frost(1, 12), 0);
        x.go(20);
        x.brick(0, 0);
        DUE.is("it stays so", x.asked(), 1);
        DUE.is("each of any KIND has its LOT", Due.wall("w9 f00AB b02AB").frost(1, lot(1, 2) % 12), 0);
        DUE.is("each of any KIND has its LOT", Due.wall("w9 f00AB b02AB").frost(1, lot(1, 2) % 12 + 1), 2);
    }

    private static void frostOfThoseThatAreIn() {
        DUE.promise("37 frost, of BRICKS that are IN");
        int rest = lot(1, 1) % 12;
        for (int c = rest; c <= rest + 1; c++) {
            DryBargains x = agreed("w9 b00AB b02AB");
            x.draw(0);
            DUE.is("the first that is IN has the first LOT", x.frost(1, c), c == rest ? 0 : 2);
            x.brick(0, 0);
            DUE.is("one that is OUT stays", x.asked(), 0);
        }
        DryBargains not = Due.wall("w9 b50AB");
        DUE.is("one that does not stand is IN", not.frost(1, 12), 1);
        DUE.is("it did not ahead of it", not.asked(), 0);
        DUE.is("so it is IN still", not.count(1), 1);
    }

    private static void frostWhatIsOut() {
        DUE.promise("37 frost, all that do not stand, though they did ahead of it, are OUT");
        DryBargains x = Due.wall("w9 b00AB b11CD b20EF b30AB b42CD b06EF");
        DUE.is("all stand but 4", x.stands(), Due.bits(0, 1, 2, 3, 5));
        DUE.is("CRACKED", x.frost(1, 12), 63);
        DUE.is("OUT", x.asked(), Due.bits(1, 2, 3));
        DUE.is("IN", x.count(1), 3);
        DryBargains arch = Due.wall("w9 b01AB b10CD a12EF b15AB b05CD");
        DUE.is("all stand", arch.stands(), 31);
        arch.frost(1, 12);
        DUE.is("the ARCH beside it, too", arch.asked(), Due.bits(1, 2));
        DryBargains held = Due.wall("w9 b00AB b11CD b13EF b04AB");
        held.wedge(1, 1);
        held.vine(2);
        held.frost(1, 12);
        DUE.is("neither by its WEDGE nor by the VINE", held.asked(), 0);
        DUE.is("they stand", held.stands(), 15);
    }

    private static void frostOverAndOver() {
        DUE.promise("37 frost, what is OUT by it has no LOT any more");
        DryBargains x = Due.wall("w9 b00AB b11CD b04EF");
        x.frost(1, 12);
        DUE.is("1 is OUT", x.asked(), 2);
        DUE.is("again", x.frost(1, 12), 0);
        DUE.is("none more", x.asked(), 0);
        DUE.is("its place is free", x.set(1, 1, 0, 1), 3);
    }

    // ---- 38 odds

    private static void oddsRefused() {
        DUE.promise("38 odds, BAD; c (0 .. 12)");
        for (int b : Refused.outside(0, Busy.BRICKS - 1)) {
            BUSY.bad("odds(" + b + ", 1)", x -> x.odds(b, 1));
        }
        for (int c : Refused.outside(0, 12)) {
            BUSY.bad("odds(0, " + c + ")", x -> x.odds(0, c));
            BUSY.bad("odds(12, " + c + ")", x -> x.odds(12, c));
        }
        BUSY.nothing("OUT", x -> x.odds(Busy.OUT, 1));
        NEW.bad("no WALL", x -> x.odds(0, 1));
    }

    private static void oddsOrder() {
        DUE.promise("38 odds, BAD, then NOTHING, then SPENT");
        Refused out = by(FOURTEEN, x -> x.draw(13));
        out.bad("BAD ahead of NOTHING", x -> x.odds(13, 13));
        out.bad("BAD ahead of NOTHING", x -> x.odds(13, -1));
        out.nothing("NOTHING ahead of SPENT", x -> x.odds(13, 1));
        out.bad("BAD ahead of SPENT", x -> x.odds(12, 13));
        out.spent("SPENT", x -> x.odds(12, 1));
    }

    private static void oddsSpent() {
        DUE.promise("38 odds, SPENT: more than 9 there");
        DryBargains nine = Due.wall(FOURTEEN.substring(0, 2 + 9 * 5) + "b30CD");
        DUE.is("nine", nine.odds(9, 1), 1);
        by(FOURTEEN.substring(0, 2 + 10 * 5) + "b30CD", x -> { }).spent("ten", x -> x.odds(10, 1));
        by(FOURTEEN.substring(0, 2 + 10 * 5) + "b30CD", x -> { }).spent("ten, by 0", x -> x.odds(10, 0));
        by(FOURTEEN, x -> { }).spent("twelve", x -> x.odds(13, 12));
        by(FOURTEEN, x -> x.vine(13)).spent("twelve, though it has the VINE", x -> x.odds(13, 12));
        DryBargains out = agreed(FOURTEEN.substring(0, 2 + 10 * 5) + "b30CD");
        out.draw(9);
        DUE.is("one of ten is OUT", out.odds(10, 1), 1);
        DryBargains beside = agreed("w9b00ABb02ABb04ABb06ABb10ABb12ABb14ABb16ABb20ABb22ABb24ABb26ABb30ABb32AB");
        DUE.is("those in its own COURSE and above are none", beside.odds(8, 1), 1);
    }

    private static void odds(DryBargains x, int b, int c, long upper, long lower) {
        DUE.is("odds(" + b + ", " + c + ")", x.odds(b, c), 1);
        DUE.is("odds(" + b + ", " + c + "), upper()", x.upper(), upper);
        DUE.is("odds(" + b + ", " + c + "), lower()", x.lower(), lower);
    }

    private static void oddsNeverAndAlways() {
        DUE.promise("38 odds, never and always (0 by 1, 1 by 1)");
        for (int c = 0; c <= 12; c++) {
            odds(Due.wall("w9 b00AB"), 0, c, 1, 1);
            odds(Due.wall("w9 b50AB"), 0, c, 0, 1);
            odds(Due.wall("w9 b50AB b00CD"), 0, c, 0, 1);
            DryBargains wedged = Due.wall("w9 b00AB b10CD");
            wedged.wedge(1, 1);
            odds(wedged, 1, c, 1, 1);
            DryBargains overgrown = Due.wall("w9 b00AB b10CD");
            overgrown.vine(1);
            odds(overgrown, 1, c, 1, 1);
        }
        odds(Due.wall("w9 b00AB b10CD"), 1, 0, 1, 1);
        odds(Due.wall("w9 b00AB b10CD"), 1, 12, 0, 1);
    }

    private static void oddsInLowestTerms() {
        DUE.promise("38 odds, in lowest terms, the lower number above 0");
        long[][] due = {{1, 1}, {11, 12}, {5, 6}, {3, 4}, {2, 3}, {7, 12}, {1, 2}, {5, 12}, {1, 3}, {1, 4}, {1, 6}, {1, 12}, {0, 1}};
        for (int c = 0; c <= 12; c++) {
            odds(Due.wall("w9 b00AB b10CD"), 1, c, due[c][0], due[c][1]);
            odds(Due.wall("w9 b00AB b10CD b05EF"), 1, c, due[c][0], due[c][1]);
        }
        odds(Due.wall("w9 b00AB b02AB b11CD"), 2, 1, 143, 144);
        odds(Due.wall("w9 b00AB b02AB b11CD"), 2, 11, 23, 144);
        odds(Due.wall("w9 b00AB b02AB c11CD"), 2, 1, 121, 144);
        odds(Due.wall("w9 b00AB b02AB r11CD"), 2, 6, 1, 4);
    }

    private static void oddsGreatest() {
        DUE.promise("38 odds, nine there, each with need");
        DryBargains x = Due.wall(PYRAMID);
        odds(x, 9, 1, 2357947691L, 5159780352L);
        odds(x, 9, 5, 40353607L, 5159780352L);
        odds(x, 9, 6, 1, 512);
        odds(x, 9, 11, 1, 5159780352L);
        odds(x, 9, 12, 0, 1);
        odds(x, 9, 0, 1, 1);
        DUE.is("nothing is another by it", x.stands(), 1023);
        DUE.is("asked() is none of it", x.asked(), 0);
    }

    private static void oddsOthersAsTheyAre() {
        DUE.promise("38 odds, all others as they are");
        odds(Due.wall("w9 b00AB b05CD b10EF a12AB b15BC"), 3, 6, 1, 4);
        DryBargains x = Due.wall("w9 b00AB b05CD b10EF a12AB b15BC");
        x.wedge(2, 1);
        odds(x, 3, 6, 1, 2);
        x.vine(4);
        odds(x, 3, 6, 1, 1);
        DryBargains low = Due.wall("w9 b10AB b20CD");
        odds(low, 1, 6, 0, 1);
        low.wedge(0, 1);
        odds(low, 1, 6, 1, 2);
        DryBargains out = agreed("w9 b00AB b02CD b11EF");
        out.draw(0);
        odds(out, 2, 6, 1, 2);
        DryBargains missing = Due.wall("w9 b00AB b10CD");
        missing.vine(0);
        odds(missing, 1, 6, 1, 2);
    }

    // ---- 39 go

    private static void goRefused() {
        DUE.promise("39 go, n (0 .. 20)");
        for (int n : Refused.outside(0, 20)) {
            BUSY.bad("go(" + n + ")", x -> x.go(n));
            NEW.bad("no WALL", x -> x.go(n));
        }
    }

    private static DryBargains inYear(int year) {
        DryBargains x = agreed("w9 b00AB b02CD");
        goTo(x, year);
        return x;
    }

    private static void goTo(DryBargains x, int year) {
        for (int i = 0; i < 50; i++) {
            x.go(Math.min(20, year - x.count(5)));
        }
    }

    private static void goSpent() {
        DUE.promise("39 go, SPENT: YEAR 1000 would be passed");
        for (int year = 975; year <= 1000; year++) {
            for (int n : new int[] {0, 1, 19, 20}) {
                int to = year;
                if (year + n > 1000) {
                    by("w9 b00AB b02CD", x -> {
                        goTo(x, to);
                        x.vine(0);
                    }).spent(n + " from YEAR " + year, x -> x.go(n));
                } else {
                    DryBargains x = inYear(year);
                    DUE.is(n + " from YEAR " + year, x.go(n), 0);
                    DUE.is("YEAR", x.count(5), year + n);
                }
            }
        }
        by("w9 b00AB", x -> goTo(x, 1000)).bad("BAD ahead of SPENT", x -> x.go(21));
        by("w9 b00AB", x -> goTo(x, 1000)).bad("BAD ahead of SPENT", x -> x.go(-1));
        DryBargains none = new DryBargains();
        goTo(none, 1000);
        DUE.is("no WALL, YEAR 1000", none.count(5), 1000);
        DUE.is("no WALL", none.go(1), Refused.SPENT);
    }

    private static void goNoneAndTwenty() {
        DUE.promise("39 go, 0 and 20 YEARS");
        DryBargains x = Due.wall(FOURTEEN);
        x.vine(0);
        DUE.is("none", x.go(0), 1);
        DUE.is("YEAR", x.count(5), 0);
        DUE.is("twenty", x.go(20), 14);
        DUE.is("YEAR", x.count(5), 20);
        DUE.is("all have it", x.go(1), 14);
        DUE.is("YEARS go by without it, too", Due.wall(FOURTEEN).go(20), 0);
    }

    private static void goOneInEach() {
        DUE.promise("39 go, in each YEAR one BRICK more");
        DryBargains x = Due.wall(FOURTEEN);
        x.vine(0);
        for (int n = 2; n <= 14; n++) {
            DUE.is("one more", x.go(1), n);
        }
        DryBargains two = Due.wall("w9 b00AB b02CD b05EF b07AC");
        two.vine(0);
        two.vine(3);
        DUE.is("one, though planted twice", two.go(1), 3);
        DUE.is("one more", two.go(1), 4);
    }

    private static int overgrown(DryBargains x) {
        int set = 0;
        for (int b = 0; b < x.count(0); b++) {
            x.brick(b, 7);
            set |= (x.asked() >> 1) << b;
        }
        return set;
    }

    private static void goLeastNumber() {
        DUE.promise("39 go, the least number");
        DryBargains x = Due.wall("w9 b04AB b06CD b02EF b00AC");
        x.vine(0);
        x.go(1);
        DUE.is("1 ahead of 2", overgrown(x), 3);
        x.go(1);
        DUE.is("2", overgrown(x), 7);
        x.go(1);
        DUE.is("3 touches 2", overgrown(x), 15);
        DryBargains y = Due.wall("w9 b00AB b02CD b04EF");
        y.vine(2);
        y.go(1);
        DUE.is("not 0, which touches none", overgrown(y), 6);
        y.go(1);
        DUE.is("0 touches 1", overgrown(y), 7);
    }

    private static void touches(String wall, boolean due) {
        DryBargains x = Due.wall(wall);
        x.vine(0);
        DUE.is("go(1) in " + wall, x.go(1), due ? 2 : 1);
        DryBargains y = Due.wall(wall);
        y.vine(1);
        DUE.is("go(1) in " + wall + ", from the other", y.go(1), due ? 2 : 1);
    }

    private static void goTouching() {
        DUE.promise("39 go, side by side in a COURSE, or one upon the other with a HALF or more");
        for (int half = 0; half <= 7; half++) {
            boolean beside = half == 1 || half == 5;
            boolean upon = half >= 2 && half <= 4;
            if (half <= 1 || half >= 5) {
                touches("w9 b23AB b2" + half + "CD", beside);
            }
            touches("w9 b23AB b3" + half + "CD", upon);
            touches("w9 b23AB b1" + half + "CD", upon);
            touches("w9 b23AB b4" + half + "CD", false);
            touches("w9 b23AB b0" + half + "CD", false);
        }
        for (int half = 0; half <= 6; half++) {
            boolean upon = half >= 1 && half <= 5;
            touches("w9 r23AB r3" + half + "CD", upon);
            if (half == 0 || half == 6) {
                touches("w9 r23AB a2" + half + "CD", true);
            }
        }
        touches("w9 b00AB b07CD", false);
        touches("w9 b00AB b17CD", false);
    }

    private static void goOnlyThoseThatAreIn() {
        DUE.promise("39 go, of those that are IN");
        DryBargains x = agreed("w9 b00AB b02CD b04EF");
        x.draw(1);
        x.vine(0);
        DUE.is("1 is OUT", x.go(20), 1);
        x.undo();
        DUE.is("1 is back", x.go(1), 2);
        DryBargains not = Due.wall("w9 b50AB b52CD");
        not.vine(0);
        DUE.is("one that does not stand is IN", not.go(1), 2);
        DUE.is("it does now", not.stands(), 3);
    }

    // ---- 40 keep, 41 on

    private static void keepRefused() {
        DUE.promise("40 keep, a place (0 .. 2); STATE: no WALL");
        for (int k : Refused.outside(0, 2)) {
            BUSY.bad("keep(" + k + ")", x -> x.keep(k));
            NEW.bad("BAD ahead of STATE", x -> x.keep(k));
        }
        for (int k = 0; k < 3; k++) {
            int place = k;
            NEW.state("no WALL", x -> x.keep(place));
            new Refused(DUE, x -> {
                x.text(0, 5);
                x.wall(0);
            }).state("a FAULT was no WALL", x -> x.keep(place));
        }
    }

    private static void keepCounts() {
        DUE.promise("40 keep, how many BRICKS are IN");
        for (int k = 0; k < 3; k++) {
            DUE.is("a WALL of none", Due.wall("w2").keep(k), 0);
            DryBargains x = agreed(FOURTEEN);
            DUE.is("all", x.keep(k), 14);
            x.draw(13);
            DUE.is("but one", x.keep(k), 13);
        }
        DUE.is("one that does not stand is IN", Due.wall("w9 b50AB").keep(0), 1);
    }

    private static void keepAnew() {
        DUE.promise("40 keep, in a place where one was kept");
        DryBargains x = agreed("w9 b00AB b02CD");
        x.keep(0);
        x.keep(1);
        x.draw(1);
        DUE.is("anew", x.keep(0), 1);
        x.draw(0);
        DUE.is("as it was the second time", x.on(0), 1);
        DUE.is("the other place is as it was", x.on(1), 2);
    }

    private static void onRefused() {
        DUE.promise("41 on, BAD; NOTHING");
        for (int k : Refused.outside(0, 2)) {
            BUSY.bad("on(" + k + ")", x -> x.on(k));
        }
        BUSY.nothing("not kept", x -> x.on(Busy.NOT_KEPT));
        for (int k = 0; k < 3; k++) {
            int place = k;
            NEW.nothing("no WALL", x -> x.on(place));
            new Refused(DUE, x -> {
                Busy.make(x);
                x.keep(0);
                x.wall(Busy.WALL_TEXT);
            }).nothing("a WALL anew", x -> x.on(place));
        }
    }

    /** What other calls change, one by one, comes back by on(). */
    private static void onAsItWasKept() {
        DUE.promise("41 on, the WALL is as it was kept");
        java.util.List<Consumer<DryBargains>> changes = java.util.List.of(x -> x.yes(5, 1), x -> x.yes(0, 0),
            x -> x.heir(0, 5), x -> x.heir(5, 0), x -> x.hang(0, 1), x -> x.hang(Busy.HANGS, -9),
            x -> x.wedge(0, 1), x -> x.wedge(Busy.WEDGED, 0), x -> x.vine(0), x -> x.draw(7), x -> x.undo(),
            x -> x.set(4, 3, 0, 1), x -> x.frost(1, 12), x -> x.go(1), x -> x.on(2));
        for (int i = 0; i < changes.size(); i++) {
            for (int k = 0; k < 3; k++) {
                DryBargains x = new DryBargains();
                Busy.make(x);
                int in = x.keep(k);
                long then = x.digest();
                changes.get(i).accept(x);
                DUE.is("change " + i + " is one", x.digest() == then && k != 2 ? 1 : 0, 0);
                DUE.is("on(" + k + ") after change " + i, x.on(k), in);
                DUE.is("as it was, after change " + i, x.digest(), then);
                DUE.is("what was DRAWN, after change " + i, x.undo(), 11);
            }
        }
    }

    private static void onWhatWasDrawn() {
        DUE.promise("41 on, what was DRAWN is as it was kept, and in that order");
        DryBargains x = agreed("w9 b00AB b02CD b04EF b06AC");
        x.draw(3);
        x.draw(1);
        x.keep(0);
        x.undo();
        x.undo();
        x.draw(0);
        x.draw(2);
        x.draw(3);
        x.keep(1);
        x.on(0);
        DUE.is("the last", x.undo(), 1);
        DUE.is("the one ahead", x.undo(), 3);
        DUE.is("no more", x.undo(), Refused.STATE);
        x.on(1);
        DUE.is("in the other place", x.undo(), 3);
        DUE.is("in the other place", x.undo(), 2);
        DUE.is("in the other place", x.undo(), 0);
    }

    private static void onLeavesTheRest() {
        DUE.promise("41 on, all but ROWS, TEXTS");
        DryBargains x = agreed("w9 b00AB b02CD");
        x.row(0, 1);
        x.lay(0, 0, 5);
        x.text(1, 1);
        x.keep(1);
        x.row(3, 2);
        x.lay(0, 0, 6);
        x.put(1, 0, 'q');
        x.text(2, 0);
        x.odds(0, 3);
        x.tear(5);
        DUE.is("on(1)", x.on(1), 2);
        DUE.is("ROWS", x.count(6), 2);
        DUE.is("TEXTS", x.count(7), 3);
        DUE.is("asked()", x.asked(), 5);
        DUE.is("upper()", x.upper(), 1);
        DUE.is("finding()", x.finding(), Refused.NOTHING);
        DUE.is("findings(1)", x.findings(1), 1);
        x.at(0, 0);
        DUE.is("a ROW is as it is now", x.asked(), 6);
        DUE.is("a TEXT is as it is now", x.put(1, 0, 0), 1000 + 'q');
    }

    private static void onOverAndOver() {
        DUE.promise("41 on, a kept WALL stays kept");
        DryBargains x = agreed("w9 b00AB b02CD");
        x.keep(2);
        for (int i = 0; i < 3; i++) {
            x.draw(1);
            x.wedge(0, 1);
            x.set(0, 4, 0, 1);
            DUE.is("on(2)", x.on(2), 2);
            DUE.is("BRICKS", x.count(0), 2);
            DUE.is("WEDGES", x.count(3), 0);
        }
        x.draw(0);
        x.draw(1);
        x.keep(0);
        DUE.is("with none IN", x.on(0), 0);
        DUE.is("all", x.on(2), 2);
    }
}
