import java.util.ArrayList;
import java.util.List;
import java.util.function.Consumer;
import java.util.function.ToIntFunction;

/**
 * Makes a call that is due to be refused on one of two objects that were used alike, and looks whether
 * all other calls tell the same of both: what is refused changes nothing but finding(), findings().
 */
final class Refused {
    static final int BAD = -1, FULL = -2, FINDING = -3, STATE = -4, SPENT = -6, NONE = -9;
    static final int NOTHING = 1, BEYOND = 2, UNLIKE = 3, NOUGHT = 4, SIZE = 5;

    private final Due due;
    private final Consumer<DryBargains> steps;

    Refused(Due due, Consumer<DryBargains> steps) {
        this.due = due;
        this.steps = steps;
    }

    /** The first numbers on either side that are none any more, and the farthest ones. */
    static int[] outside(int least, int greatest) {
        return new int[] {Integer.MIN_VALUE, least - 1, greatest + 1, Integer.MAX_VALUE};
    }

    void bad(String call, ToIntFunction<DryBargains> of) {
        answers(call, of, BAD, 0);
    }

    void full(String call, ToIntFunction<DryBargains> of) {
        answers(call, of, FULL, 0);
    }

    void state(String call, ToIntFunction<DryBargains> of) {
        answers(call, of, STATE, 0);
    }

    void spent(String call, ToIntFunction<DryBargains> of) {
        answers(call, of, SPENT, 0);
    }

    void none(String call, ToIntFunction<DryBargains> of) {
        answers(call, of, NONE, 0);
    }

    void nothing(String call, ToIntFunction<DryBargains> of) {
        answers(call, of, FINDING, NOTHING);
    }

    void beyond(String call, ToIntFunction<DryBargains> of) {
        answers(call, of, FINDING, BEYOND);
    }

    void unlike(String call, ToIntFunction<DryBargains> of) {
        answers(call, of, FINDING, UNLIKE);
    }

    void nought(String call, ToIntFunction<DryBargains> of) {
        answers(call, of, FINDING, NOUGHT);
    }

    void size(String call, ToIntFunction<DryBargains> of) {
        answers(call, of, FINDING, SIZE);
    }

    private void answers(String call, ToIntFunction<DryBargains> of, int answer, int finding) {
        DryBargains x = made(finding);
        DryBargains twin = made(finding);
        due.is(call, of.applyAsInt(x), answer);
        due.is(call + ", finding()", x.finding(), finding == 0 ? twin.finding() : finding);
        for (int f = 1; f <= 5; f++) {
            due.is(call + ", findings(" + f + ")", x.findings(f), twin.findings(f) + (f == finding ? 1 : 0));
        }
        List<String> seen = seen(x);
        List<String> dueToBeSeen = seen(twin);
        due.is(call + ", as much is seen", seen.size(), dueToBeSeen.size());
        for (int i = 0; i < Math.min(seen.size(), dueToBeSeen.size()); i++) {
            boolean same = seen.get(i).equals(dueToBeSeen.get(i));
            due.is(call + " is refused, but then " + seen.get(i) + " and not " + dueToBeSeen.get(i), same ? 1 : 0, 1);
        }
    }

    /** Another finding comes ahead, so that the one of the call is seen to be the latest. */
    private DryBargains made(int finding) {
        DryBargains x = new DryBargains();
        steps.accept(x);
        if (finding == SIZE) {
            x.at(0, 40);
        } else {
            x.row(0, -1);
        }
        return x;
    }

    /** All that can be asked of an object; what changes it comes last. */
    static List<String> seen(DryBargains x) {
        List<String> s = new ArrayList<>();
        s.add("asked() " + x.asked());
        s.add("upper() " + x.upper());
        s.add("lower() " + x.lower());
        s.add("digest() " + x.digest());
        for (int what = 0; what < 8; what++) {
            s.add("count(" + what + ") " + x.count(what));
        }
        for (int t = 0; t < 4; t++) {
            s.add("fault(" + t + ") " + x.fault(t));
        }
        s.add("stands() " + x.stands() + " " + x.asked());
        s.add("great() " + x.great() + " " + x.asked());
        s.add("free() " + x.free() + " " + x.asked());
        s.add("soon() " + x.soon() + " " + x.asked());
        s.add("rich() " + x.rich() + " " + x.asked());
        for (int b = 0; b < x.count(0); b++) {
            seeBrick(x, b, s);
        }
        for (int k = 0; k < 3; k++) {
            s.add("moved(" + k + ") " + x.moved(k) + " " + x.asked());
        }
        seeBackwards(x, s);
        return s;
    }

    private static void seeBrick(DryBargains x, int b, List<String> s) {
        s.add("load(" + b + ") " + x.load(b));
        s.add("asks(" + b + ") " + x.asks(b) + " " + x.asked());
        s.add("rests(" + b + ") " + x.rests(b) + " " + x.asked());
        s.add("props(" + b + ") " + x.props(b) + " " + x.asked());
    }

    private static void seeBackwards(DryBargains x, List<String> s) {
        for (int i = 0; i < 14; i++) {
            s.add("undo() " + x.undo());
        }
        for (int k = 0; k < 3; k++) {
            s.add("on(" + k + ") " + x.on(k));
            s.add("digest() of " + k + " " + x.digest());
            s.add("undo() of " + k + " " + x.undo());
        }
    }
}
