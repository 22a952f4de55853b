/** groupSize and liberties, which are refused alike. */
public final class Promise08And09GroupTest {
    private static final Expect EXPECT = new Expect();

    public static void main(String[] args) {
        singleStones();
        bentGroups();
        libertiesAreCountedOnce();
        noLiberties();
        longestWay();
        wholeBoard();
        afterMoves();
        pointOutOfRange();
        noStone();
        EXPECT.end();
    }

    private static void group(GoBoard board, int q, int size, int liberties) {
        EXPECT.due("groupSize(" + q + ")", board.groupSize(q), size);
        EXPECT.due("liberties(" + q + ")", board.liberties(q), liberties);
    }

    private static void singleStones() {
        EXPECT.says("Promises 8 and 9: the group at q, of one stone");
        GoBoard alone = Expect.drawn(
                "X.....O", ".......", "X......", "...O...", "......X", ".......", "O.....X");
        group(alone, 0, 1, 2);
        group(alone, 6, 1, 2);
        group(alone, 42, 1, 2);
        group(alone, 48, 1, 2);
        group(alone, 14, 1, 3);
        group(alone, 34, 1, 3);
        group(alone, 24, 1, 4);
    }

    private static void bentGroups() {
        EXPECT.says("Promises 8 and 9: the same answer at each stone of a group");
        GoBoard bent = Expect.drawn(".......", ".X.....", ".XX.O..", "...XO..", "......X", "X......");
        group(bent, 8, 3, 7);
        group(bent, 15, 3, 7);
        group(bent, 16, 3, 7);
        group(bent, 24, 1, 3);
        group(bent, 18, 2, 5);
        group(bent, 25, 2, 5);
        group(bent, 34, 1, 3);
        group(bent, 35, 1, 3);
    }

    private static void libertiesAreCountedOnce() {
        EXPECT.says("Promise 9: the number of liberties, a point beside several stones is one");
        group(Expect.drawn(".......", ".XXX...", ".X.X...", ".XXX..."), 8, 8, 13);
        group(Expect.drawn("X......", "XX....."), 0, 3, 4);
        group(Expect.drawn("X.O....", "XXO....", "OO....."), 0, 3, 1);
    }

    private static void noLiberties() {
        EXPECT.says("Promise 9: 0 for a group without liberties");
        GoBoard dead = Expect.drawn("XXO....", "OO.....");
        group(dead, 0, 2, 0);
        group(dead, 1, 2, 0);
        GoBoard chequered = Expect.drawn(
                "XOXOXOX", "OXOXOXO", "XOXOXOX", "OXOXOXO", "XOXOXOX", "OXOXOXO", "XOXOXOX");
        for (int q = 0; q < 49; q++) {
            group(chequered, q, 1, 0);
        }
    }

    private static void longestWay() {
        EXPECT.says("Promises 8 and 9: a group that winds over the board");
        GoBoard snake = Expect.drawn(
                "XXXXXXX", "OOOOOOX", "XXXXXXX", "XOOOOOO", "XXXXXXX", "OOOOOOX", ".XXXXXX");
        group(snake, 0, 30, 1);
        group(snake, 43, 30, 1);
        group(snake, 7, 6, 0);
        group(snake, 22, 6, 0);
        group(snake, 35, 6, 1);
        EXPECT.due("its last liberty", snake.play(1, 42), 30);

        // No shortest way inside a set of points of this board is longer than this one.
        GoBoard longest = Expect.drawn(
                "XXOXXXX", "XOXXOOX", "XXXOXXX", "OOOXXOO", "XXXX.XX", "XOOOOOX", "XXXXXXX");
        group(longest, 1, 33, 1);
        group(longest, 33, 33, 1);

        GoBoard columns = Expect.drawn(
                "OXOOOXO", "OXOXOXO", "OXOXOXO", "OXOXOXO", "OXOXOXO", "OXOXOXO", "OOOXOOO");
        group(columns, 0, 31, 0);
        group(columns, 6, 31, 0);
        group(columns, 1, 6, 0);

        GoBoard spiral = Expect.drawn(
                "XXXXXXX", "OOOOOOX", "XXXXXOX", "XOOOXOX", "XOXXXOX", "XOOOOOX", "XXXXXXX");
        group(spiral, 0, 31, 0);
        group(spiral, 30, 31, 0);
        group(spiral, 7, 18, 0);
        group(spiral, 24, 18, 0);
    }

    private static void wholeBoard() {
        EXPECT.says("Promises 8 and 9: 49 stones and 48");
        GoBoard whole = Expect.drawn(
                "OOOOOOO", "OOOOOOO", "OOOOOOO", "OOOOOOO", "OOOOOOO", "OOOOOOO", "OOOOOOO");
        group(whole, 0, 49, 0);
        group(whole, 48, 49, 0);
        whole.set(2, 0);
        group(whole, 48, 48, 1);
        group(whole, 0, GoBoard.TAKEN, GoBoard.TAKEN);
    }

    private static void afterMoves() {
        EXPECT.says("Promises 8 and 9: after moves, captures and undo");
        GoBoard board = Expect.drawn("XO.....", ".......");
        group(board, 1, 1, 2);
        board.play(1, 7);
        group(board, 1, 1, 3);
        group(board, 0, GoBoard.TAKEN, GoBoard.TAKEN);
        board.play(1, 0);
        group(board, 7, 3, 3);
        board.undo();
        board.undo();
        group(board, 0, 1, 1);
        group(board, 7, GoBoard.TAKEN, GoBoard.TAKEN);
    }

    private static void pointOutOfRange() {
        EXPECT.says("Promises 8 and 9: q not 0 to 48 answers BAD_ARG");
        for (int q : Expect.NOT_A_POINT) {
            GoBoard board = Expect.drawn("XO.....");
            EXPECT.refused("groupSize(" + q + ")", board, b -> b.groupSize(q), GoBoard.BAD_ARG);
            EXPECT.refused("liberties(" + q + ")", board, b -> b.liberties(q), GoBoard.BAD_ARG);
            group(new GoBoard(), q, GoBoard.BAD_ARG, GoBoard.BAD_ARG);
        }
    }

    private static void noStone() {
        EXPECT.says("Promises 8 and 9: no stone answers TAKEN");
        GoBoard empty = new GoBoard();
        for (int q = 0; q < 49; q++) {
            group(empty, q, GoBoard.TAKEN, GoBoard.TAKEN);
        }
        GoBoard board = Expect.drawn("XO.....");
        EXPECT.refused("groupSize(2)", board, b -> b.groupSize(2), GoBoard.TAKEN);
        EXPECT.refused("liberties(2)", board, b -> b.liberties(2), GoBoard.TAKEN);
        EXPECT.refused("groupSize(48)", board, b -> b.groupSize(48), GoBoard.TAKEN);
        EXPECT.refused("liberties(48)", board, b -> b.liberties(48), GoBoard.TAKEN);
    }
}
