public final class Promise15RegionTest {
    private static final Expect EXPECT = new Expect();

    public static void main(String[] args) {
        emptyBoard();
        severalRegions();
        longestWay();
        onePoint();
        afterMoves();
        pointOutOfRange();
        stoneThere();
        EXPECT.end();
    }

    private static void region(GoBoard board, int q, int due) {
        EXPECT.due("region(" + q + ")", board.region(q), due);
    }

    private static void emptyBoard() {
        EXPECT.says("Promise 15: all 49 points of an empty board");
        for (int q = 0; q < 49; q++) {
            EXPECT.due("region(" + q + ")", new GoBoard().region(q), 49);
        }
    }

    private static void severalRegions() {
        EXPECT.says("Promise 15: the number of points of the region of the empty point q");
        GoBoard board = Expect.drawn(
                ".X...O.", "XX...OO", "OOOOOOO", "......X", "XXXXXX.", ".......", "O......");
        region(board, 0, 1);
        region(board, 2, 6);
        region(board, 11, 6);
        region(board, 6, 1);
        region(board, 21, 6);
        region(board, 26, 6);
        region(board, 34, 14);
        region(board, 48, 14);
    }

    private static void longestWay() {
        EXPECT.says("Promise 15: a region that winds over the board");
        GoBoard snake = Expect.drawn(
                ".......", "XXXXXX.", ".......", ".OOOOOO", ".......", "XXXXXX.", ".......");
        region(snake, 0, 31);
        region(snake, 42, 31);
        GoBoard spiral = Expect.drawn(
                ".......", "XXXXXX.", ".....O.", ".XXX.O.", ".X...O.", ".XXXXX.", ".......");
        region(spiral, 0, 31);
        region(spiral, 30, 31);

        // No shortest way inside a set of points of this board is longer than this one.
        GoBoard longest = Expect.drawn(
                "..X....", ".X..OO.", "...X...", "OOX..XX", "....O..", ".XXXXX.", ".......");
        region(longest, 1, 33);
        region(longest, 33, 33);
    }

    private static void onePoint() {
        EXPECT.says("Promise 15: a region of one point among 48 stones");
        GoBoard board = Expect.drawn(
                "XXXXXXX", "XXXXXXX", "XXXXXXX", "XXX.XXX", "XXXXXXX", "XXXXXXX", "XXXXXXX");
        region(board, 24, 1);
        board.set(2, 48);
        region(board, 48, 1);
        board.set(2, 25);
        region(board, 24, 2);
    }

    private static void afterMoves() {
        EXPECT.says("Promise 15: after a capture and undo");
        GoBoard board = Expect.drawn("XO.....");
        EXPECT.due("region(2)", board.region(2), 47);
        board.play(1, 7);
        EXPECT.due("region(0)", board.region(0), 1);
        EXPECT.due("region(2)", board.region(2), 46);
        board.undo();
        EXPECT.due("region(0), undone", board.region(0), GoBoard.TAKEN);
        EXPECT.due("region(7), undone", board.region(7), 47);
    }

    private static void pointOutOfRange() {
        EXPECT.says("Promise 15: q not 0 to 48 answers BAD_ARG");
        GoBoard whole = Expect.drawn(
                "XXXXXXX", "XXXXXXX", "XXXXXXX", "XXXXXXX", "XXXXXXX", "XXXXXXX", "XXXXXXX");
        for (int q : Expect.NOT_A_POINT) {
            GoBoard board = Expect.drawn("XO.....");
            EXPECT.refused("region(" + q + ")", board, b -> b.region(q), GoBoard.BAD_ARG);
            region(new GoBoard(), q, GoBoard.BAD_ARG);
            EXPECT.due("region(" + q + ") on 49 stones", whole.region(q), GoBoard.BAD_ARG);
        }
    }

    private static void stoneThere() {
        EXPECT.says("Promise 15: a stone at q answers TAKEN");
        GoBoard board = Expect.drawn(
                "XO.....", ".......", ".......", ".......", ".......", ".......", "......O");
        EXPECT.refused("region(0)", board, b -> b.region(0), GoBoard.TAKEN);
        EXPECT.refused("region(1)", board, b -> b.region(1), GoBoard.TAKEN);
        EXPECT.refused("region(48)", board, b -> b.region(48), GoBoard.TAKEN);
        GoBoard whole = Expect.drawn(
                "XOXOXOX", "OXOXOXO", "XOXOXOX", "OXOXOXO", "XOXOXOX", "OXOXOXO", "XOXOXOX");
        for (int q = 0; q < 49; q++) {
            EXPECT.due("region(" + q + ") on 49 stones", whole.region(q), GoBoard.TAKEN);
        }
    }
}
