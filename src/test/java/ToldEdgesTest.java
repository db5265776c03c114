import java.util.function.Consumer;
import java.util.function.ToIntFunction;

/** The boundary cases of promises 42 to 48: what is told. */
public final class ToldEdgesTest {
    private static final int NONE = -9;
    private static final int MIN = Integer.MIN_VALUE, MAX = Integer.MAX_VALUE;
    private static final String STEPS = "w6 b00AB b02BC b04CD b11DE b13EF";
    private static final Due DUE = new Due("ToldEdgesTest");
    private static final Refused BUSY = new Refused(DUE, Busy::make);

    public static void main(String[] args) {
        askedBefore();
        askedByEach();
        askedByNoOther();
        askedLeastAndGreatest();
        fractionBefore();
        fractionByOddsAlone();
        countRefused();
        countNone();
        countMost();
        countOfWhatIsOut();
        findingBefore();
        findingByEach();
        findingsRefused();
        findingsCount();
        digestOfNone();
        digestOfRows();
        digestOfTexts();
        digestOfKeptWalls();
        digestOfDrawn();
        digestOfBricks();
        digestIsOfNothingElse();
        onlyTelling();
        DUE.end();
    }

    private static DryBargains agreed(String wall) {
        DryBargains x = Due.wall(wall);
        Due.allSayYes(x);
        return x;
    }

    // ---- 42 asked

    private static void askedBefore() {
        DUE.promise("42 asked, 0 before");
        DryBargains x = new DryBargains();
        DUE.is("asked()", x.asked(), 0);
        x.at(0, 0);
        x.great();
        x.soon();
        x.moved(0);
        x.alone(1);
        DUE.is("by refused ones and by NONE", x.asked(), 0);
    }

    /** Each call has another number to tell than the one told ahead of it. */
    private static void askedByEach() {
        DUE.promise("42 asked, what the latest of these told");
        DryBargains x = agreed("w9 b00AB b02BC b04CD b11DE b13EF t30ABC b50AB");
        x.row(0, 2);
        x.lay(0, 0, 77);
        told(x, "lay()", x.lay(0, 0, 78), 1, 77);
        told(x, "at()", x.at(0, 0), 1, 78);
        x.lay(0, 1, 2);
        told(x, "mean()", x.mean(0), 1, 40);
        told(x, "brick()", x.brick(4, 4), 1, 5);
        told(x, "stands()", x.stands(), 31, 96);
        x.yes(5, 0);
        told(x, "asks()", x.asks(4), 48, 32);
        told(x, "great()", x.great(), 0, 0);
        told(x, "free()", x.free(), 111, 127);
        told(x, "ahead()", x.ahead(0, 1), 0, 3);
        told(x, "rests()", x.rests(1), 0, 24);
        told(x, "props()", x.props(1), 0, 0);
        told(x, "soon()", x.soon(), 6, 6);
        told(x, "rich()", x.rich(), 1, 2);
        told(x, "alone()", x.alone(1), 3, 0);
        told(x, "few()", x.few(3), 1, 2);
        x.keep(0);
        x.set(2, 2, 0, 1);
        told(x, "moved()", x.moved(0), 0, 128);
        told(x, "frost()", x.frost(1, 0), 0, 0);
    }

    private static void told(DryBargains x, String call, int got, int due, int told) {
        DUE.is(call, got, due);
        DUE.is(call + ", asked()", x.asked(), told);
        DUE.is(call + ", asked() once more", x.asked(), told);
    }

    private static void askedByNoOther() {
        DUE.promise("42 asked, by no other call");
        java.util.List<ToIntFunction<DryBargains>> others = java.util.List.of(x -> x.row(5, 3), x -> x.tear(0),
            x -> x.copy(0, 0, 1, 0, 2), x -> x.text(2, 3), x -> x.put(0, 0, 3), x -> x.fault(1), x -> x.wall(0),
            x -> x.mark(7, 1), x -> x.yes(5, 1), x -> x.heir(0, 1), x -> x.hang(0, 1), x -> x.wedge(0, 1),
            x -> x.vine(0), x -> x.falls(2), x -> x.load(1), x -> x.draw(7), x -> x.undo(), x -> x.set(4, 3, 0, 1),
            x -> x.owes(0, 1), x -> x.odds(8, 1), x -> x.go(1), x -> x.keep(0), x -> x.on(1), x -> x.count(0),
            x -> x.finding(), x -> x.findings(1));
        for (int i = 0; i < others.size(); i++) {
            DryBargains x = new DryBargains();
            Busy.make(x);
            int answer = others.get(i).applyAsInt(x);
            DUE.is("call " + i + " is refused", answer < 0 && answer != NONE ? 1 : 0, 0);
            DUE.is("after call " + i, x.asked(), -3);
            x.digest();
            x.upper();
            x.lower();
            DUE.is("after call " + i, x.asked(), -3);
        }
    }

    private static void askedLeastAndGreatest() {
        DUE.promise("42 asked, the least and the greatest int");
        DryBargains x = new DryBargains();
        x.row(0, 1);
        for (int v : new int[] {MIN, MAX, -1, 0}) {
            x.lay(0, 0, v);
            x.at(0, 0);
            DUE.is("asked()", x.asked(), v);
            x.mean(0);
            DUE.is("asked()", x.asked(), v);
        }
    }

    // ---- 43 upper, 44 lower

    private static void fractionBefore() {
        DUE.promise("43 upper, 0 before; 44 lower, 1 before");
        DryBargains x = agreed(STEPS);
        x.stands();
        x.odds(9, 1);
        x.odds(0, 13);
        x.draw(4);
        x.odds(4, 1);
        DUE.is("upper()", x.upper(), 0);
        DUE.is("lower()", x.lower(), 1);
    }

    private static void fractionByOddsAlone() {
        DUE.promise("43 upper, 44 lower, of the fraction that was told last");
        DryBargains x = agreed(STEPS);
        x.odds(3, 1);
        DUE.is("upper()", x.upper(), 143);
        DUE.is("lower()", x.lower(), 144);
        x.stands();
        x.row(0, 1);
        x.mean(0);
        x.draw(4);
        x.wall(0);
        DUE.is("upper() stays", x.upper(), 143);
        DUE.is("lower() stays", x.lower(), 144);
        x.odds(3, 12);
        DUE.is("0", x.upper(), 0);
        DUE.is("by 1", x.lower(), 1);
    }

    // ---- 45 count

    private static void countRefused() {
        DUE.promise("45 count, BAD");
        for (int what : Refused.outside(0, 7)) {
            BUSY.bad("count(" + what + ")", x -> x.count(what));
        }
    }

    private static void counts(DryBargains x, int... due) {
        for (int what = 0; what < 8; what++) {
            DUE.is("count(" + what + ")", x.count(what), due[what]);
        }
    }

    private static void countNone() {
        DUE.promise("45 count, none");
        counts(new DryBargains(), 0, 0, 0, 0, 0, 0, 0, 0);
        counts(Due.wall("w9"), 0, 0, 0, 0, 0, 0, 0, 1);
    }

    private static void countMost() {
        DUE.promise("45 count, as many as there can be");
        DryBargains x = agreed("w9r00ABa03ABr06ABr10ABa13ABr16ABr20ABa23ABr26ABr30ABa33ABr36ABr40ABa43AB");
        for (int r = 0; r < 6; r++) {
            x.row(r, r == 0 ? 0 : 40);
        }
        for (int t = 0; t < 4; t++) {
            x.text(t, t == 0 ? 0 : 100);
        }
        for (int b = 0; b < 4; b++) {
            x.wedge(b, 1);
        }
        x.vine(0);
        for (int i = 0; i < 50; i++) {
            x.go(20);
        }
        counts(x, 14, 14, 14, 4, 14, 1000, 6, 4);
    }

    private static void countOfWhatIsOut() {
        DUE.promise("45 count, 0 BRICKS, 1 of these IN");
        DryBargains x = agreed("w9 r00AB b03CD a10EF");
        counts(x, 3, 3, 2, 0, 0, 0, 0, 1);
        x.draw(2);
        counts(x, 3, 2, 2, 0, 0, 0, 0, 1);
        x.draw(1);
        x.draw(0);
        counts(x, 3, 0, 2, 0, 0, 0, 0, 1);
    }

    // ---- 46 finding, 47 findings

    private static void findingBefore() {
        DUE.promise("46 finding, 0 before any");
        DryBargains x = agreed(STEPS);
        x.row(9, 9);
        x.undo();
        x.odds(0, 13);
        x.wedge(0, 0);
        DUE.is("none by BAD, STATE", x.finding(), 0);
        for (int f = 1; f <= 5; f++) {
            DUE.is("findings(" + f + ")", x.findings(f), 0);
        }
    }

    private static void findingByEach() {
        DUE.promise("46 finding, the latest FINDING");
        java.util.List<Consumer<DryBargains>> calls = java.util.List.of(x -> x.tear(Busy.NO_ROW),
            x -> x.at(Busy.ROW, 3), x -> x.mark(0, 1), x -> x.mean(Busy.EMPTY_ROW), x -> x.row(0, -1));
        DryBargains x = new DryBargains();
        Busy.make(x);
        for (int f = 1; f <= 5; f++) {
            for (int g = 1; g <= 5; g++) {
                calls.get(g - 1).accept(x);
                DUE.is("finding()", x.finding(), g);
                calls.get(f - 1).accept(x);
                DUE.is("finding()", x.finding(), f);
                x.stands();
                x.row(6, 1);
                DUE.is("it stays", x.finding(), f);
            }
        }
        for (int f = 1; f <= 5; f++) {
            DUE.is("findings(" + f + ")", x.findings(f), 10);
        }
    }

    private static void findingsRefused() {
        DUE.promise("47 findings, a FINDING (1 .. 5). BAD");
        for (int f : Refused.outside(1, 5)) {
            BUSY.bad("findings(" + f + ")", x -> x.findings(f));
        }
        DUE.is("findings(1)", new DryBargains().findings(1), 0);
        DUE.is("findings(5)", new DryBargains().findings(5), 0);
    }

    private static void findingsCount() {
        DUE.promise("47 findings, how often a FINDING was answered");
        DryBargains x = new DryBargains();
        for (int i = 0; i < 500; i++) {
            x.tear(0);
        }
        DUE.is("500 times", x.findings(1), 500);
        for (int f = 2; f <= 5; f++) {
            DUE.is("findings(" + f + ")", x.findings(f), 0);
        }
    }

    // ---- 48 digest

    private static long mix(long h, long... values) {
        for (long v : values) {
            h = 31 * h + v;
        }
        return h;
    }

    private static void digestOfNone() {
        DUE.promise("48 digest, nothing");
        long h = mix(17, 0, 0, 0, 0, 0, 0, 0, 0, 0, 0, -1, -1, -1);
        DUE.is("new", new DryBargains().digest(), mix(h, -1, -1, -1, -1, -1, -1, -1, -1, -1, -1));
        DryBargains x = Due.wall("w2");
        x.text(0, 0);
        h = mix(17, 0, 0, 0, 0, 0, 0, 0, 1, 2, 0, -1, -1, -1);
        DUE.is("a WALL of none", x.digest(), mix(h, -1, -1, -1, -1, -1, -1, 0, -1, -1, -1));
        x.keep(0);
        h = mix(17, 0, 0, 0, 0, 0, 0, 0, 1, 2, 0, 0, -1, -1);
        DUE.is("kept", x.digest(), mix(h, -1, -1, -1, -1, -1, -1, 0, -1, -1, -1));
    }

    private static void digestOfRows() {
        DUE.promise("48 digest, of each ROW its size (-1: missing) and places");
        DryBargains x = new DryBargains();
        for (int r = 0; r < 5; r++) {
            x.row(r, 40);
            x.lay(r, 0, MIN);
            x.lay(r, 39, MAX);
        }
        x.row(4, 0);
        long h = mix(17, 0, 0, 0, 0, 0, 0, 5, 0, 0, 0, -1, -1, -1);
        for (int r = 0; r < 4; r++) {
            h = mix(mix(mix(h, 40, MIN), new long[38]), MAX);
        }
        DUE.is("full ones, one of none, one missing", x.digest(), mix(h, 0, -1, -1, -1, -1, -1));
    }

    private static void digestOfTexts() {
        DUE.promise("48 digest, of each TEXT likewise");
        DryBargains x = new DryBargains();
        for (int t = 1; t < 4; t++) {
            x.text(t, 100);
            x.put(t, 0, -128);
            x.put(t, 99, 127);
        }
        x.text(2, 0);
        long[] blanks = new long[98];
        java.util.Arrays.fill(blanks, 32);
        long h = mix(17, 0, 0, 0, 0, 0, 0, 0, 3, 0, 0, -1, -1, -1, -1, -1, -1, -1, -1, -1, -1);
        h = mix(mix(mix(h, 100, -128), blanks), 127, 0);
        DUE.is("one missing, full ones, one of none", x.digest(), mix(mix(mix(h, 100, -128), blanks), 127));
    }

    private static void digestOfKeptWalls() {
        DUE.promise("48 digest, of each kept WALL which are IN (-1: missing)");
        DryBargains x = agreed("w9 b00AB b02CD");
        x.text(0, 0);
        x.keep(2);
        x.draw(1);
        x.keep(0);
        x.draw(0);
        long h = mix(17, 2, 0, 0, 0, 0, 0, 0, 1, 9, 63);
        h = mix(h, 0, 0, 0, 0, 1, NONE, 0, 0, NONE, 0, 0, 2, 2, 3, NONE, 0, 0, NONE);
        h = mix(h, 1, 0, 1, -1, 3);
        DUE.is("places 0, 2", x.digest(), mix(h, -1, -1, -1, -1, -1, -1, 0, -1, -1, -1));
    }

    private static void digestOfDrawn() {
        DUE.promise("48 digest, of each BRICK that was DRAWN and did not come back, the first one first");
        int[][] draws = {{0, 1, 2}, {2, 1, 0}, {1, 0, 2}};
        for (int[] d : draws) {
            DryBargains x = agreed("w9 b00AB b02CD b04EF");
            x.text(0, 0);
            for (int b : d) {
                x.draw(b);
            }
            x.undo();
            long h = mix(17, 3, 1, 0, 0, 0, 0, 0, 1, 9, 63);
            for (int b = 0; b < 3; b++) {
                h = mix(h, 0, 0, 2 * b, 2 * b, 2 * b + 1, NONE, b == d[2] ? 1 : 0, 0, NONE);
            }
            h = mix(h, d[0], d[1], -1, -1, -1);
            DUE.is("DRAWN", x.digest(), mix(h, -1, -1, -1, -1, -1, -1, 0, -1, -1, -1));
        }
        DryBargains fallen = Due.wall("w9 b00AB b11CD");
        fallen.text(0, 0);
        fallen.frost(1, 12);
        long h = mix(17, 2, 1, 0, 0, 0, 0, 0, 1, 9, 0);
        h = mix(h, 1, 0, 0, 0, 1, NONE, 1, 0, NONE, 1, 1, 1, 2, 3, NONE, 0, 0, NONE, -1, -1, -1);
        DUE.is("what fell was not DRAWN", fallen.digest(), mix(h, -1, -1, -1, -1, -1, -1, 0, -1, -1, -1));
    }

    private static void digestOfBricks() {
        DUE.promise("48 digest, of each BRICK brick() 0 to 8");
        DryBargains x = Due.wall("w7 t00FED a03CB");
        x.text(0, 0);
        x.yes(0, 1);
        x.yes(5, 1);
        x.hang(0, 1);
        x.wedge(1, 1);
        x.vine(0);
        x.go(3);
        long h = mix(17, 2, 2, 1, 1, 1, 3, 0, 1, 7, 33);
        h = mix(h, 3, 0, 0, 5, 4, 3, 1, 2, 1, 5, 0, 3, 2, 1, NONE, 1, 1, NONE, -1, -1, -1);
        DUE.is("two", x.digest(), mix(h, -1, -1, -1, -1, -1, -1, 0, -1, -1, -1));
    }

    private static void digestIsOfNothingElse() {
        DUE.promise("48 digest, not of what was told and found");
        DryBargains x = new DryBargains();
        Busy.make(x);
        long before = x.digest();
        x.stands();
        x.odds(1, 1);
        x.tear(Busy.NO_ROW);
        x.great();
        x.soon();
        x.free();
        DUE.is("as it was", x.digest(), before);
        DUE.is("once more", x.digest(), before);
    }

    // ---- calls that only tell

    private static void onlyTelling() {
        DUE.promise("calls that only tell change nothing but asked(), upper(), lower()");
        java.util.List<Consumer<DryBargains>> calls = java.util.List.of(x -> x.at(0, 0), x -> x.mean(0), x -> x.fault(0),
            x -> x.brick(0, 0), x -> x.mark(7, 1), x -> x.stands(), x -> x.falls(2), x -> x.load(1), x -> x.great(),
            x -> x.asks(0), x -> x.free(), x -> x.rests(1), x -> x.props(1), x -> x.soon(), x -> x.owes(0, 1), x -> x.rich(),
            x -> x.alone(3), x -> x.few(7), x -> x.moved(1), x -> x.odds(8, 5), x -> x.go(0), x -> x.count(0),
            x -> x.finding(), x -> x.findings(1));
        for (int i = 0; i < calls.size(); i++) {
            DryBargains x = new DryBargains();
            DryBargains twin = new DryBargains();
            Busy.make(x);
            Busy.make(twin);
            calls.get(i).accept(x);
            java.util.List<String> seen = Refused.seen(x);
            java.util.List<String> due = Refused.seen(twin);
            // the first three are asked(), upper(), lower()
            DUE.is("after call " + i, seen.subList(3, seen.size()).equals(due.subList(3, due.size())) ? 1 : 0, 1);
            DUE.is("call " + i + " finds nothing", x.findings(3), 0);
        }
    }
}
