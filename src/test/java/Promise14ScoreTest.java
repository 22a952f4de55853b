public final class Promise14ScoreTest {
    private static final Expect EXPECT = new Expect();

    public static void main(String[] args) {
        emptyBoard();
        someOfItsPointsHaveStonesAsNeighbours();
        noneHasTheOthers();
        severalRegions();
        rowsDoNotRunOn();
        manyStones();
        prisonersDoNotCount();
        playerOutOfRange();
        EXPECT.end();
    }

    private static void score(String what, int of0, int of1, String... rows) {
        GoBoard board = Expect.drawn(rows);
        EXPECT.changesNothing(what + ": score(0)", board, b -> b.score(0), of0);
        EXPECT.changesNothing(what + ": score(1)", board, b -> b.score(1), of1);
    }

    private static void emptyBoard() {
        EXPECT.says("Promise 14: the region of an empty board belongs to nobody");
        score("an empty board", 0, 0);
    }

    private static void someOfItsPointsHaveStonesAsNeighbours() {
        EXPECT.says("Terms: it BELONGS to p if some of its points have stones of p as neighbours");
        score("one stone", 49, 0, "X......");
        score("one stone of the other", 0, 49, ".......", ".......", ".......", "...O...");
        score("two far stones", 49, 0,
                "X......", ".......", ".......", ".......", ".......", ".......", "......X");
    }

    private static void noneHasTheOthers() {
        EXPECT.says("Terms: and none has a stone of the other player as a neighbour");
        score("one stone of each", 1, 1, "X......", ".......", "......O");
        score("a point that both touch", 3, 2, ".XO....", "O......", ".......", "......X", ".....X.");
        score("a wall", 28, 1,
                ".......", ".......", ".......", "XXXXXXX", ".......", "..O....", ".......");
    }

    private static void severalRegions() {
        EXPECT.says("Promise 14: the points of the regions that belong to p");
        score("two halves", 21, 21,
                ".......", ".......", "XXXXXXX", ".......", "OOOOOOO", ".......", ".......");
        score("a corner each", 4, 4,
                ".X.....", "XX.....", ".......", ".......", ".......", ".....OO", ".....O.");
        score("a region in a region", 9, 2,
                ".......", ".XXX...", ".X.X...", ".XXX...", ".......", "..O....", ".....O.");
        score("two regions of one player", 6, 1,
                ".X...X.", "X.....X", ".......", ".......", ".......", ".......", "...O...");
    }

    private static void rowsDoNotRunOn() {
        EXPECT.says("Promise 14: row ends do not join regions");
        score("right and left edge", 6, 2, ".....X.", ".....OX", "...XOXX");
    }

    private static void manyStones() {
        EXPECT.says("Promise 14: the number of stones of player p");
        score("49 of both", 25, 24,
                "XOXOXOX", "OXOXOXO", "XOXOXOX", "OXOXOXO", "XOXOXOX", "OXOXOXO", "XOXOXOX");
        score("49 of one", 0, 49,
                "OOOOOOO", "OOOOOOO", "OOOOOOO", "OOOOOOO", "OOOOOOO", "OOOOOOO", "OOOOOOO");
        score("48 of one", 49, 0,
                "XXXXXXX", "XXXXXXX", "XXXXXXX", "XXX.XXX", "XXXXXXX", "XXXXXXX", "XXXXXXX");
        score("a group without liberties counts", 1, 48, "XO.....", "O......");
    }

    private static void prisonersDoNotCount() {
        EXPECT.says("Promise 14: nothing else counts, prisoners do not");
        GoBoard board = Expect.drawn("XO.....", ".......", "X......");
        EXPECT.due("play(1, 7)", board.play(1, 7), 1);
        EXPECT.due("score(1)", board.score(1), 3);
        EXPECT.due("score(0)", board.score(0), 1);
        board.undo();
        EXPECT.due("score(1), undone", board.score(1), 1);
        EXPECT.due("score(0), undone", board.score(0), 2);
    }

    private static void playerOutOfRange() {
        EXPECT.says("Promise 14: BAD_ARG if p is not 0 or 1");
        for (int p : Expect.NOT_A_PLAYER) {
            GoBoard board = Expect.drawn("XO.....");
            EXPECT.refused("score(" + p + ")", board, b -> b.score(p), GoBoard.BAD_ARG);
            EXPECT.due("score(" + p + "), empty board", new GoBoard().score(p), GoBoard.BAD_ARG);
        }
    }
}
