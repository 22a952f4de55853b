public final class Promise13InAtariTest {
    private static final Expect EXPECT = new Expect();

    public static void main(String[] args) {
        noStones();
        stonesNotGroups();
        exactlyOneLiberty();
        oneLibertySharedByMany();
        manyStones();
        afterMoves();
        playerOutOfRange();
        EXPECT.end();
    }

    private static void inAtari(String what, int of0, int of1, String... rows) {
        GoBoard board = Expect.drawn(rows);
        EXPECT.changesNothing(what + ": inAtari(0)", board, b -> b.inAtari(0), of0);
        EXPECT.changesNothing(what + ": inAtari(1)", board, b -> b.inAtari(1), of1);
    }

    private static void noStones() {
        EXPECT.says("Promise 13: none without stones");
        inAtari("an empty board", 0, 0);
        inAtari("one stone", 0, 0, "X......");
    }

    private static void stonesNotGroups() {
        EXPECT.says("Promise 13: how many STONES of player p");
        inAtari("single stones of each", 1, 2,
                "XO.....", ".X.....", ".......", ".......", "......X", ".....XO");
        inAtari("stones are counted, not groups", 5, 1,
                "XXO....", "OX.....", ".O.....", ".......", ".......", "OO.....", "XX.....");
    }

    private static void exactlyOneLiberty() {
        EXPECT.says("Promise 13: in groups with EXACTLY ONE liberty");
        inAtari("none", 0, 0, "XO.....", "O......");
        inAtari("one", 1, 0, "XO.....");
        inAtari("two", 0, 0, "X......");
        inAtari("three", 0, 0, "...X...");
        inAtari("two of a group", 0, 0, "XXO....");
        inAtari("one of a group", 2, 0, "XXO....", "O......");
        inAtari("none of a group", 0, 0, "XXO....", "OO.....");
    }

    private static void oneLibertySharedByMany() {
        EXPECT.says("Promise 13: one liberty beside several stones or groups is one");
        inAtari("beside two of its stones", 3, 0, "X.O....", "XXO....", "OO.....");
        inAtari("of three groups", 0, 3, "..X....", ".XOX...", "XO.X...", ".XOX...", "..X....");
        inAtari("of groups of both", 2, 1, "XX.OX..", "OO.X...");
    }

    private static void manyStones() {
        EXPECT.says("Promise 13: many stones");
        inAtari("48 stones", 48, 0,
                "XXXXXXX", "XXXXXXX", "XXXXXXX", "XXX.XXX", "XXXXXXX", "XXXXXXX", "XXXXXXX");
        inAtari("47 stones", 0, 0,
                "XXXXXXX", "XXXXXXX", "XXXXXXX", "XXX.XXX", "XXXXXXX", "XXXXXXX", "XXXXXX.");
        inAtari("49 stones", 0, 0,
                "OOOOOOO", "OOOOOOO", "OOOOOOO", "OOOOOOO", "OOOOOOO", "OOOOOOO", "OOOOOOO");
    }

    private static void afterMoves() {
        EXPECT.says("Promise 13: after a move and undo");
        GoBoard board = Expect.drawn("X......");
        board.play(1, 1);
        EXPECT.due("inAtari(0) after a move", board.inAtari(0), 1);
        board.undo();
        EXPECT.due("inAtari(0) after undo", board.inAtari(0), 0);
    }

    private static void playerOutOfRange() {
        EXPECT.says("Promise 13: BAD_ARG if p is not 0 or 1");
        for (int p : Expect.NOT_A_PLAYER) {
            GoBoard board = Expect.drawn("XO.....");
            EXPECT.refused("inAtari(" + p + ")", board, b -> b.inAtari(p), GoBoard.BAD_ARG);
            EXPECT.due("inAtari(" + p + "), empty board", new GoBoard().inAtari(p), GoBoard.BAD_ARG);
        }
    }
}
