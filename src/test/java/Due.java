/** What the tests of the project share: they count answers, print the wrong ones, and lay walls by texts. */
final class Due {
    private final String name;
    private int answers;
    private int wrong;
    private String promise = "";

    Due(String name) {
        this.name = name;
    }

    void promise(String which) {
        promise = which;
    }

    void is(String call, long got, long want) {
        answers++;
        if (got != want) {
            wrong++;
            if (wrong <= 50) {
                System.out.println(name + ", " + promise + ": " + call + " answered " + got + ", due is " + want);
            }
        }
    }

    int wrong() {
        return wrong;
    }

    void end() {
        System.out.println(name + ": " + answers + " answers, " + wrong + " not as due");
        if (wrong != 0) {
            System.exit(1);
        }
    }

    /** Writes a text at a place of an object. */
    static void write(DryBargains x, int t, String text) {
        x.text(t, text.length());
        for (int i = 0; i < text.length(); i++) {
            x.put(t, i, text.charAt(i));
        }
    }

    /** A new object with a wall. */
    static DryBargains wall(String text) {
        DryBargains x = new DryBargains();
        write(x, 0, text);
        if (x.wall(0) < 0) {
            throw new IllegalStateException("no wall: " + text);
        }
        return x;
    }

    static void allSayYes(DryBargains x) {
        for (int p = 0; p < 6; p++) {
            x.yes(p, 1);
        }
    }

    /** A set of bricks or of people. */
    static int bits(int... members) {
        int set = 0;
        for (int m : members) {
            set |= 1 << m;
        }
        return set;
    }
}
