/** An object in whose wall there is something of everything, so that a call which ought to change nothing has much to change. */
final class Busy {
    static final String WALL = "w9 b00AB b02BC f04CD t06DEF b11EF r13FA b16BD c21AC b23BD a25CE b50AF";
    /** It was drawn and did not come back, nor did 11, which was drawn after it. */
    static final int OUT = 9;
    static final int HANGS = 8;
    static final int WEDGED = 4;
    static final int OVERGROWN = 6;
    static final int NOT_STANDING = 10;
    static final int BRICKS = 13;
    static final int KEPT = 1, NOT_KEPT = 0;
    static final int ROW = 0, FULL_ROW = 1, EMPTY_ROW = 4, NO_ROW = 2;
    static final int WALL_TEXT = 0, FAULTY_TEXT = 1, EMPTY_TEXT = 3, NO_TEXT = 2;

    private Busy() {
    }

    static void make(DryBargains x) {
        Due.write(x, WALL_TEXT, WALL);
        Due.write(x, FAULTY_TEXT, "w5b");
        x.text(EMPTY_TEXT, 0);
        x.wall(WALL_TEXT);
        Due.allSayYes(x);
        x.keep(2);
        x.draw(OUT);
        x.hang(HANGS, OUT);
        x.wedge(WEDGED, 1);
        x.wedge(7, 1);
        x.keep(KEPT);
        x.vine(OVERGROWN);
        x.go(1);
        x.yes(5, 0);
        x.set(3, 1, 4, 0);
        x.draw(11);
        x.set(3, 3, 2, 5);
        x.odds(8, 3);
        x.row(FULL_ROW, 40);
        x.row(EMPTY_ROW, 0);
        x.row(ROW, 3);
        x.lay(ROW, 0, 7);
        x.lay(ROW, 1, -3);
        x.lay(ROW, 2, Integer.MAX_VALUE);
        x.at(ROW, 1);
    }
}
