public final class Promise14ScoreTest {
    private static final Expect EXPECT = new Expect();

    public static void main(String[] args) {
        score("no stone", 0, 0);
        score("one stone", 49, 0, "X......");
        score("one stone of each", 1, 1, "X......", ".......", "......O");
        score("two halves", 21, 21,
                ".......", ".......", "XXXXXXX", ".......", "OOOOOOO", ".......", ".......");
        score("a corner each", 4, 4,
                ".X.....", "XX.....", ".......", ".......", ".......", ".....OO", ".....O.");
        score("a region in a region", 9, 2,
                ".......", ".XXX...", ".X.X...", ".XXX...", ".......", "..O....", ".....O.");
        score("a point that both touch", 3, 2, ".XO....", "O......", ".......", "......X", ".....X.");
        score("rows do not run on", 6, 2, ".....X.", ".....OX", "...XOXX");
        score("no empty point", 25, 24,
                "XOXOXOX", "OXOXOXO", "XOXOXOX", "OXOXOXO", "XOXOXOX", "OXOXOXO", "XOXOXOX");

        GoBoard board = Expect.drawn("XO.....");
        board.play(1, 7);
        EXPECT.due("prisoners do not count: score(1)", board.score(1), 49);
        EXPECT.due("prisoners do not count: score(0)", board.score(0), 0);
        for (int p : Expect.NOT_A_PLAYER) {
            EXPECT.due("score(" + p + ")", board.score(p), GoBoard.BAD_ARG);
        }
        EXPECT.end();
    }

    private static void score(String what, int of0, int of1, String... rows) {
        GoBoard board = Expect.drawn(rows);
        EXPECT.due(what + ": score(0)", board.score(0), of0);
        EXPECT.due(what + ": score(1)", board.score(1), of1);
    }
}
