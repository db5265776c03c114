/** Promises 1 to 11: a new object, rows, texts, walls and their faults. */
public final class RowsTextsTest {
    private static final int BAD = -1, FINDING = -3, STATE = -4, NONE = -9;
    private static final int NOTHING = 1, BEYOND = 2, NOUGHT = 4, SIZE = 5;
    private static final Due DUE = new Due("RowsTextsTest");

    public static void main(String[] args) {
        newObject();
        row();
        layAndAt();
        tear();
        copy();
        mean();
        text();
        put();
        faultOfWidth();
        faultOfBricks();
        faultOfMarks();
        faultOfKinds();
        wall();
        wallAnew();
        DUE.end();
    }

    private static void finds(DryBargains x, String call, int got, int finding) {
        DUE.is(call, got, FINDING);
        DUE.is(call + ", finding()", x.finding(), finding);
    }

    private static void newObject() {
        DUE.promise("1 a new object");
        DryBargains x = new DryBargains();
        for (int what = 0; what < 8; what++) {
            DUE.is("count(" + what + ")", x.count(what), 0);
        }
        DUE.is("asked()", x.asked(), 0);
        DUE.is("upper()", x.upper(), 0);
        DUE.is("lower()", x.lower(), 1);
        DUE.is("finding()", x.finding(), 0);
        for (int f = 1; f <= 5; f++) {
            DUE.is("findings(" + f + ")", x.findings(f), 0);
        }
        DUE.is("stands()", x.stands(), 0);
        DUE.is("soon()", x.soon(), STATE);
        for (int r = 0; r < 6; r++) {
            finds(x, "tear(" + r + ")", x.tear(r), NOTHING);
        }
        for (int t = 0; t < 4; t++) {
            finds(x, "fault(" + t + ")", x.fault(t), NOTHING);
        }
        for (int k = 0; k < 3; k++) {
            finds(x, "on(" + k + ")", x.on(k), NOTHING);
        }
    }

    private static void row() {
        DUE.promise("2 row");
        DryBargains x = new DryBargains();
        DUE.is("row(0, 40)", x.row(0, 40), 40);
        DUE.is("row(5, 0)", x.row(5, 0), 0);
        DUE.is("rows", x.count(6), 2);
        DUE.is("row(-1, 1)", x.row(-1, 1), BAD);
        DUE.is("row(6, 1)", x.row(6, 1), BAD);
        DUE.is("row(0, 41)", x.row(0, 41), BAD);
        DUE.is("row(6, -1)", x.row(6, -1), BAD);
        DUE.is("row(0, max)", x.row(0, Integer.MAX_VALUE), BAD);
        DUE.is("no finding by BAD", x.finding(), 0);
        finds(x, "row(0, -1)", x.row(0, -1), SIZE);
        finds(x, "row(1, min)", x.row(1, Integer.MIN_VALUE), SIZE);
        DUE.is("a refused row is still there", x.lay(0, 39, 7), 1);
        DUE.is("row(0, 40) anew", x.row(0, 40), 40);
        x.at(0, 39);
        DUE.is("anew its ints are 0", x.asked(), 0);
        x.lay(0, 1, 9);
        x.row(0, 1);
        x.row(0, 2);
        x.at(0, 1);
        DUE.is("shorter, then longer: 0", x.asked(), 0);
        DUE.is("rows", x.count(6), 2);
    }

    private static void layAndAt() {
        DUE.promise("3 lay, 4 at");
        DryBargains x = new DryBargains();
        DUE.is("lay(-1, 0, 1)", x.lay(-1, 0, 1), BAD);
        DUE.is("lay(6, 0, 1)", x.lay(6, 0, 1), BAD);
        DUE.is("at(-1, 0)", x.at(-1, 0), BAD);
        DUE.is("at(6, 0)", x.at(6, 0), BAD);
        finds(x, "lay(0, 0, 1)", x.lay(0, 0, 1), NOTHING);
        x.row(1, -1);
        finds(x, "at(0, 99)", x.at(0, 99), NOTHING);
        x.row(0, 3);
        for (int i : new int[] {-1, 3, Integer.MAX_VALUE, Integer.MIN_VALUE}) {
            x.tear(5);
            finds(x, "lay(0, " + i + ", 1)", x.lay(0, i, 1), BEYOND);
            x.tear(5);
            finds(x, "at(0, " + i + ")", x.at(0, i), BEYOND);
        }
        x.row(1, 0);
        finds(x, "lay in a ROW of none", x.lay(1, 0, 1), BEYOND);
        finds(x, "at in a ROW of none", x.at(1, 0), BEYOND);
        DUE.is("lay(0, 2, 5)", x.lay(0, 2, 5), 1);
        DUE.is("it was 0", x.asked(), 0);
        DUE.is("lay(0, 2, min)", x.lay(0, 2, Integer.MIN_VALUE), 1);
        DUE.is("it was 5", x.asked(), 5);
        DUE.is("at(0, 2)", x.at(0, 2), 1);
        DUE.is("it is min", x.asked(), Integer.MIN_VALUE);
        x.at(0, 3);
        DUE.is("refused: asked() stays", x.asked(), Integer.MIN_VALUE);
        x.at(0, 0);
        DUE.is("other places stay", x.asked(), 0);
    }

    private static void tear() {
        DUE.promise("5 tear");
        DryBargains x = new DryBargains();
        x.row(2, 4);
        x.row(3, 0);
        DUE.is("tear(-1)", x.tear(-1), BAD);
        DUE.is("tear(6)", x.tear(6), BAD);
        DUE.is("tear(2)", x.tear(2), 1);
        finds(x, "tear(2)", x.tear(2), NOTHING);
        DUE.is("tear(3)", x.tear(3), 1);
        DUE.is("rows", x.count(6), 0);
        finds(x, "mean(2)", x.mean(2), NOTHING);
    }

    private static void fill(DryBargains x, int r, int... ints) {
        x.row(r, ints.length);
        for (int i = 0; i < ints.length; i++) {
            x.lay(r, i, ints[i]);
        }
    }

    private static void holds(DryBargains x, int r, int... ints) {
        for (int i = 0; i < ints.length; i++) {
            x.at(r, i);
            DUE.is("at(" + r + ", " + i + ")", x.asked(), ints[i]);
        }
    }

    private static void copy() {
        DUE.promise("6 copy");
        DryBargains x = new DryBargains();
        fill(x, 0, 1, 2, 3, 4, 5);
        x.row(1, 3);
        DUE.is("bad from", x.copy(6, 0, 1, 0, 1), BAD);
        DUE.is("bad to", x.copy(0, 0, -1, 0, 1), BAD);
        DUE.is("bad ahead of SIZE", x.copy(-1, 0, 1, 0, -1), BAD);
        finds(x, "n below 0", x.copy(0, 0, 1, 0, -1), SIZE);
        finds(x, "n below 0, none there", x.copy(4, 0, 5, 0, -1), SIZE);
        finds(x, "from missing", x.copy(4, 0, 1, 0, 1), NOTHING);
        x.row(3, -1);
        finds(x, "to missing", x.copy(0, 9, 4, 0, 1), NOTHING);
        int[][] beyond = {{-1, 0, 1}, {0, -1, 1}, {3, 0, 3}, {0, 2, 2}, {6, 0, 0}, {0, 4, 0},
            {Integer.MAX_VALUE, 0, 1}, {1, 0, Integer.MAX_VALUE}, {0, Integer.MIN_VALUE, 1}};
        for (int[] a : beyond) {
            x.row(3, -1);
            finds(x, "beyond", x.copy(0, a[0], 1, a[1], a[2]), BEYOND);
        }
        x.row(2, 0);
        finds(x, "from a ROW of none", x.copy(2, 0, 1, 0, 1), BEYOND);
        x.row(3, -1);
        finds(x, "to a ROW of none", x.copy(0, 0, 2, 0, 1), BEYOND);
        DUE.is("none of none", x.copy(2, 0, 2, 0, 0), 1);
        DUE.is("none, at the ends", x.copy(0, 5, 1, 3, 0), 1);
        DUE.is("two", x.copy(0, 3, 1, 1, 2), 1);
        holds(x, 1, 0, 4, 5);
        DUE.is("on itself, up", x.copy(0, 0, 0, 1, 4), 1);
        holds(x, 0, 1, 1, 2, 3, 4);
        fill(x, 0, 1, 2, 3, 4, 5);
        DUE.is("on itself, down", x.copy(0, 2, 0, 0, 3), 1);
        holds(x, 0, 3, 4, 5, 4, 5);
        DUE.is("copy does not tell", x.asked(), 5);
    }

    private static void mean() {
        DUE.promise("7 mean");
        DryBargains x = new DryBargains();
        DUE.is("mean(6)", x.mean(6), BAD);
        DUE.is("mean(-1)", x.mean(-1), BAD);
        finds(x, "mean(0)", x.mean(0), NOTHING);
        x.row(0, 0);
        finds(x, "of none", x.mean(0), NOUGHT);
        fill(x, 0, 3, 4);
        DUE.is("mean(0)", x.mean(0), 1);
        DUE.is("cut", x.asked(), 3);
        fill(x, 0, -3, -4);
        x.mean(0);
        DUE.is("cut towards 0", x.asked(), -3);
        fill(x, 0, Integer.MAX_VALUE, Integer.MAX_VALUE, Integer.MAX_VALUE);
        x.mean(0);
        DUE.is("no wrapping", x.asked(), Integer.MAX_VALUE);
        fill(x, 0, Integer.MIN_VALUE, Integer.MIN_VALUE);
        x.mean(0);
        DUE.is("no wrapping", x.asked(), Integer.MIN_VALUE);
    }

    private static void text() {
        DUE.promise("8 text");
        DryBargains x = new DryBargains();
        DUE.is("text(0, 100)", x.text(0, 100), 100);
        DUE.is("text(3, 0)", x.text(3, 0), 0);
        DUE.is("texts", x.count(7), 2);
        DUE.is("text(-1, 0)", x.text(-1, 0), BAD);
        DUE.is("text(4, 0)", x.text(4, 0), BAD);
        DUE.is("text(4, -1)", x.text(4, -1), BAD);
        DUE.is("text(0, 101)", x.text(0, 101), BAD);
        finds(x, "text(1, -1)", x.text(1, -1), SIZE);
        DUE.is("texts", x.count(7), 2);
        DUE.is("blanks", x.put(0, 99, 7), 1032);
        x.text(0, 100);
        DUE.is("blanks anew", x.put(0, 99, 7), 1032);
    }

    private static void put() {
        DUE.promise("9 put");
        DryBargains x = new DryBargains();
        DUE.is("put(4, 0, 0)", x.put(4, 0, 0), BAD);
        DUE.is("put(-1, 0, 0)", x.put(-1, 0, 0), BAD);
        finds(x, "put(0, 0, 0)", x.put(0, 0, 0), NOTHING);
        x.text(0, 2);
        finds(x, "put(0, 2, 0)", x.put(0, 2, 0), BEYOND);
        finds(x, "put(0, -1, 0)", x.put(0, -1, 0), BEYOND);
        x.text(1, 0);
        x.tear(0);
        finds(x, "put in a TEXT of none", x.put(1, 0, 0), BEYOND);
        DUE.is("put(0, 0, 255)", x.put(0, 0, 255), 1032);
        DUE.is("255 is -1", x.put(0, 0, 128), 999);
        DUE.is("128 is -128", x.put(0, 0, 127), 872);
        DUE.is("127", x.put(0, 0, 256 + 65), 1127);
        DUE.is("321 is 65", x.put(0, 0, -1), 1065);
        DUE.is("-1", x.put(0, 0, 0), 999);
        DUE.is("the other one", x.put(0, 1, 0), 1032);
    }

    private static void faults(String text, int want) {
        DryBargains x = new DryBargains();
        Due.write(x, 2, text);
        DUE.is("fault of '" + text + "'", x.fault(2), want);
        DUE.is("wall of '" + text + "'", x.wall(2) == STATE ? 1 : 0, want == NONE ? 0 : 1);
        DUE.is("no finding", x.finding(), 0);
    }

    private static void faultOfWidth() {
        DUE.promise("10 fault, w");
        DryBargains x = new DryBargains();
        DUE.is("fault(-1)", x.fault(-1), BAD);
        DUE.is("fault(4)", x.fault(4), BAD);
        finds(x, "fault(0)", x.fault(0), NOTHING);
        faults("", 0);
        faults("   ", 3);
        faults("w", 1);
        faults("  w", 3);
        faults("w0", 1);
        faults("w1", 1);
        faults("w2", NONE);
        faults("w9", NONE);
        faults("   w9   ", NONE);
        faults("w:", 1);
        faults("w 5", 1);
        faults("W5", 0);
        faults("b00AB", 0);
        faults("  5", 2);
        faults("w5w5", 2);
        faults("w55", 2);
        faults("w5 " + (char) (256 + 98), 4);
    }

    private static void faultOfBricks() {
        DUE.promise("10 fault, places");
        faults("w5x00AB", 2);
        faults("w5b", 3);
        faults("w5b 00AB", 3);
        faults("w5b60AB", 3);
        faults("w9b00ABx02AB", 7);
        faults("w5b/0AB", 3);
        faults("w5b50AB", NONE);
        faults("w5b0", 4);
        faults("w5b0 0AB", 4);
        faults("w5b04AB", 4);
        faults("w5b09AB", 4);
        faults("w9b08AB", 4);
        faults("w9b07AB", NONE);
        faults("w9b0:AB", 4);
        faults("w5r03AB", 4);
        faults("w5r02AB", NONE);
        faults("w5a03AB", 4);
        faults("w5a02AB", NONE);
        faults("w2r00AB", 4);
        faults("w5b03ABb02CD", 9);
        faults("w5b03ABb01CD", NONE);
        faults("w5b03ABb13CD", NONE);
        faults("w9r03ABb05CD", 9);
        faults("w9r03ABb06CD", NONE);
        faults("w9 r03AB  a01CD", 12);
        faults("w9r03ABa00CD", NONE);
        faults("w5b52AB", NONE);
        String fourteen = "w9b00ABb02ABb04ABb06ABb10ABb12ABb14ABb16ABb20ABb22ABb24ABb26ABb30ABb32AB";
        faults(fourteen, NONE);
        faults(fourteen + "  ", NONE);
        faults(fourteen + "b34AB", 72);
        faults(fourteen + "  b34AB", 74);
        faults(fourteen + " x", 73);
    }

    private static void faultOfMarks() {
        DUE.promise("10 fault, marks");
        faults("w5b03", 5);
        faults("w5b03A", 6);
        faults("w5b03 AB", 5);
        faults("w5b03A B", 6);
        faults("w5b03GB", 5);
        faults("w5b03aB", 5);
        faults("w5b03@B", 5);
        faults("w5b03AG", 6);
        faults("w5b03AA", 6);
        faults("w5b03FA", NONE);
        faults("w5b03ABC", 7);
        faults("w5f03AA", 6);
        faults("w5f03AB", NONE);
        faults("w5t03AB", 7);
        faults("w5t03AB ", 7);
        faults("w5t03ABA", 7);
        faults("w5t03ABB", 7);
        faults("w5t03ABG", 7);
        faults("w5t03AA", 6);
        faults("w5t03ABF", NONE);
        faults("w5t03ABFb0", 10);
    }

    private static void faultOfKinds() {
        DUE.promise("10 fault, KINDS");
        String letters = "bcftra";
        for (int sign = 33; sign < 127; sign++) {
            boolean kind = letters.indexOf(sign) >= 0;
            String marks = sign == 't' ? "ABC" : "AB";
            faults("w9 " + (char) sign + "00" + marks, kind ? NONE : 3);
        }
        for (int kind = 0; kind < 6; kind++) {
            String marks = kind == 3 ? "ABC" : "AB";
            DryBargains x = Due.wall("w9" + letters.charAt(kind) + "00" + marks);
            x.brick(0, 0);
            DUE.is("the KIND", x.asked(), kind);
        }
    }

    private static void wall() {
        DUE.promise("11 wall");
        DryBargains x = new DryBargains();
        DUE.is("wall(-1)", x.wall(-1), BAD);
        DUE.is("wall(4)", x.wall(4), BAD);
        finds(x, "wall(0)", x.wall(0), NOTHING);
        x.text(0, 1);
        DUE.is("a FAULT", x.wall(0), STATE);
        Due.write(x, 0, "w4");
        DUE.is("no BRICKS", x.wall(0), 0);
        DUE.is("but a WALL", x.keep(0), 0);
        Due.write(x, 0, "  w6  b00AB b50CD  ");
        DUE.is("two, one of which does not stand", x.wall(0), 2);
        DUE.is("stands()", x.stands(), 1);
        Due.write(x, 1, "w6b00ABb0");
        DUE.is("refused", x.wall(1), STATE);
        DUE.is("the WALL stays", x.count(0), 2);
        x.put(0, 5, 'x');
        DUE.is("a WALL does not hear of its TEXT any more", x.stands(), 1);
    }

    private static void wallAnew() {
        DUE.promise("11 wall, anew");
        DryBargains x = Due.wall("w6b00ABb02BCb10CD");
        Due.allSayYes(x);
        x.hang(0, 1);
        x.draw(2);
        x.wedge(0, 1);
        x.vine(1);
        x.go(5);
        x.keep(2);
        DUE.is("wall(0)", x.wall(0), 3);
        DUE.is("IN", x.count(1), 3);
        DUE.is("WEDGES", x.count(3), 0);
        DUE.is("VINE", x.count(4), 0);
        DUE.is("YEAR", x.count(5), 0);
        finds(x, "kept", x.on(2), NOTHING);
        DUE.is("none DRAWN", x.undo(), STATE);
        DUE.is("none HANGS", x.hang(0, NONE), NONE);
        for (int p = 0; p < 6; p++) {
            DUE.is("no YES", x.yes(p, 0), 0);
        }
        DryBargains y = Due.wall("w6b00ABb02BCb10CD");
        DUE.is("as a new one", x.digest(), y.digest());
    }
}
