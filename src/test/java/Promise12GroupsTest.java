public final class Promise12GroupsTest {
    private static final Expect EXPECT = new Expect();

    public static void main(String[] args) {
        GoBoard board = Expect.drawn("X.OO..X", "XX..O.X", "..X....", "O.....X", ".......", "X.....O");
        groups(board, 5, 4);
        board.play(0, 15);
        groups(board, 4, 4);
        board.undo();
        groups(board, 5, 4);

        groups(Expect.drawn("XO.....", "OX....."), 2, 2);
        groups(Expect.drawn("......X", "X......"), 2, 0);
        groups(Expect.drawn(
                "XOXOXOX", "OXOXOXO", "XOXOXOX", "OXOXOXO", "XOXOXOX", "OXOXOXO", "XOXOXOX"), 25, 24);
        groups(Expect.drawn(
                "OOOOOOO", "OXXXXXO", "OXOOOXO", "OXOXOXO", "OXOOOXO", "OXXXXXO", "OOOOOOO"), 2, 2);
        for (int p : Expect.NOT_A_PLAYER) {
            EXPECT.due("groups(" + p + ")", board.groups(p), GoBoard.BAD_ARG);
        }
        EXPECT.end();
    }

    private static void groups(GoBoard board, int of0, int of1) {
        EXPECT.due("groups(0)", board.groups(0), of0);
        EXPECT.due("groups(1)", board.groups(1), of1);
    }
}
