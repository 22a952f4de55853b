public final class Promise13InAtariTest {
    private static final Expect EXPECT = new Expect();

    public static void main(String[] args) {
        inAtari("single stones of each", 1, 2,
                "XO.....", ".X.....", ".......", ".......", "......X", ".....XO");
        inAtari("stones are counted, not groups", 5, 1,
                "XXO....", "OX.....", ".O.....", ".......", ".......", "OO.....", "XX.....");
        inAtari("no liberty is not one", 0, 0, "XO.....", "O......");
        inAtari("two liberties are not one", 0, 0, "X......", ".......");
        inAtari("one liberty beside two of its stones", 3, 0, "X.O....", "XXO....", "OO.....");
        inAtari("three groups at one point", 0, 3,
                "..X....", ".XOX...", "XO.X...", ".XOX...", "..X....");

        GoBoard board = Expect.drawn("X......");
        board.play(1, 1);
        EXPECT.due("inAtari(0) after a move", board.inAtari(0), 1);
        board.undo();
        EXPECT.due("inAtari(0) after undo", board.inAtari(0), 0);
        for (int p : Expect.NOT_A_PLAYER) {
            EXPECT.due("inAtari(" + p + ")", board.inAtari(p), GoBoard.BAD_ARG);
        }
        EXPECT.end();
    }

    private static void inAtari(String what, int of0, int of1, String... rows) {
        GoBoard board = Expect.drawn(rows);
        EXPECT.due(what + ": inAtari(0)", board.inAtari(0), of0);
        EXPECT.due(what + ": inAtari(1)", board.inAtari(1), of1);
    }
}
