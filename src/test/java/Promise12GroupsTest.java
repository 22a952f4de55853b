public final class Promise12GroupsTest {
    private static final Expect EXPECT = new Expect();

    public static void main(String[] args) {
        none();
        some();
        diagonalsAndRowEnds();
        manyStones();
        afterMoves();
        playerOutOfRange();
        EXPECT.end();
    }

    private static void groups(GoBoard board, int of0, int of1) {
        EXPECT.due("groups(0)", board.groups(0), of0);
        EXPECT.due("groups(1)", board.groups(1), of1);
    }

    private static void none() {
        EXPECT.says("Promise 12: no group of a player without stones");
        groups(new GoBoard(), 0, 0);
        groups(Expect.drawn("X......"), 1, 0);
        groups(Expect.drawn(".......", "......O"), 0, 1);
    }

    private static void some() {
        EXPECT.says("Promise 12: how many groups of player p there are");
        groups(Expect.drawn("X.OO..X", "XX..O.X", "..X....", "O.....X", ".......", "X.....O"), 5, 4);
        groups(Expect.drawn(".......", ".XXX...", ".XOX...", ".XXX..."), 1, 1);
    }

    private static void diagonalsAndRowEnds() {
        EXPECT.says("Promise 12: neither diagonals nor row ends join");
        groups(Expect.drawn("XO.....", "OX....."), 2, 2);
        groups(Expect.drawn("......X", "X......"), 2, 0);
        groups(Expect.drawn("O......", ".......", ".......", ".......", ".......", ".......", "O......"),
                0, 2);
    }

    private static void manyStones() {
        EXPECT.says("Promise 12: one group of 49 stones, 49 groups of one stone");
        groups(Expect.drawn(
                "XXXXXXX", "XXXXXXX", "XXXXXXX", "XXXXXXX", "XXXXXXX", "XXXXXXX", "XXXXXXX"), 1, 0);
        groups(Expect.drawn(
                "XOXOXOX", "OXOXOXO", "XOXOXOX", "OXOXOXO", "XOXOXOX", "OXOXOXO", "XOXOXOX"), 25, 24);
        groups(Expect.drawn(
                "X.X.X.X", ".X.X.X.", "X.X.X.X", ".X.X.X.", "X.X.X.X", ".X.X.X.", "X.X.X.X"), 25, 0);
        groups(Expect.drawn(
                "OOOOOOO", "OXXXXXO", "OXOOOXO", "OXOXOXO", "OXOOOXO", "OXXXXXO", "OOOOOOO"), 2, 2);
        groups(Expect.drawn(
                "XXXXXXX", "OOOOOOX", "XXXXXOX", "XOOOXOX", "XOXXXOX", "XOOOOOX", "XXXXXXX"), 1, 1);
    }

    private static void afterMoves() {
        EXPECT.says("Promise 12: after moves, captures and undo");
        GoBoard board = Expect.drawn("X.X....", "O......");
        groups(board, 2, 1);
        board.play(0, 1);
        groups(board, 1, 1);
        board.undo();
        groups(board, 2, 1);
        board.play(1, 1);
        groups(board, 1, 2);
        board.undo();
        groups(board, 2, 1);
    }

    private static void playerOutOfRange() {
        EXPECT.says("Promise 12: BAD_ARG if p is not 0 or 1");
        for (int p : Expect.NOT_A_PLAYER) {
            GoBoard board = Expect.drawn("XO.....");
            EXPECT.refused("groups(" + p + ")", board, b -> b.groups(p), GoBoard.BAD_ARG);
            EXPECT.due("groups(" + p + "), empty board", new GoBoard().groups(p), GoBoard.BAD_ARG);
        }
    }
}
