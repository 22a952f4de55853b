public final class Promise04UndoTest {
    private static final Expect EXPECT = new Expect();

    public static void main(String[] args) {
        boardAsBefore();
        greatCaptureComesBack();
        deadStonesComeBack();
        capturedAsBefore();
        takesTheLastBack();
        noneToTakeBack();
        numberLeft();
        goesOnAfterwards();
        EXPECT.end();
    }

    private static void boardAsBefore() {
        EXPECT.says("Promise 4: the board is as before the last move or pass");
        GoBoard board = Expect.drawn("X.XO...", "OOO....", "XO.....", "......X");
        board.play(0, 21);
        EXPECT.due("play(1, 1)", board.play(1, 1), 2);
        board.play(0, 20);
        board.pass();
        EXPECT.due("undo() of a pass", board.undo(), 3);
        EXPECT.looksLike("a pass undone", board, ".O.O...", "OOO....", "XO....X", "X.....X");
        EXPECT.due("undo() of a move", board.undo(), 2);
        EXPECT.looksLike("a move undone", board, ".O.O...", "OOO....", "XO.....", "X.....X");
        EXPECT.due("undo() of a capture", board.undo(), 1);
        EXPECT.looksLike("a capture undone", board, "X.XO...", "OOO....", "XO.....", "X.....X");
        EXPECT.due("undo() of the first", board.undo(), 0);
        EXPECT.looksLike("all undone", board, "X.XO...", "OOO....", "XO.....", "......X");

        GoBoard empty = new GoBoard();
        empty.play(1, 48);
        empty.undo();
        EXPECT.looksLike("back to an empty board", empty);
    }

    private static void greatCaptureComesBack() {
        EXPECT.says("Promise 4: the board is as before a capture of 48 stones");
        String[] rows = {"XXXXXXX", "XXXXXXX", "XXXXXXX", "XXX.XXX", "XXXXXXX", "XXXXXXX", "XXXXXXX"};
        GoBoard board = Expect.drawn(rows);
        board.play(1, 24);
        EXPECT.due("undo()", board.undo(), 0);
        EXPECT.looksLike("48 stones are back", board, rows);
        EXPECT.due("captured(1)", board.captured(1), 0);
    }

    private static void deadStonesComeBack() {
        EXPECT.says("Promise 4: the board is as before, groups without liberties among it");
        GoBoard board = Expect.drawn("XO...OX", "O.....O");
        EXPECT.due("play(1, 24)", board.play(1, 24), 2);
        board.undo();
        EXPECT.looksLike("they are back", board, "XO...OX", "O.....O");
        EXPECT.due("liberties(0)", board.liberties(0), 0);
    }

    private static void capturedAsBefore() {
        EXPECT.says("Promise 4: the captured stones are as before the last move or pass");
        GoBoard board = Expect.drawn("XO...OO", ".....XX");
        board.play(1, 7);
        board.play(0, 4);
        board.pass();
        captured(board, 2, 1);
        board.undo();
        captured(board, 2, 1);
        board.undo();
        captured(board, 0, 1);
        board.undo();
        captured(board, 0, 0);
    }

    private static void captured(GoBoard board, int of0, int of1) {
        EXPECT.due("captured(0) with " + board.done() + " done", board.captured(0), of0);
        EXPECT.due("captured(1) with " + board.done() + " done", board.captured(1), of1);
    }

    private static void takesTheLastBack() {
        EXPECT.says("Promise 4: takes THE LAST move or pass back");
        GoBoard board = new GoBoard();
        board.play(0, 0);
        board.play(1, 1);
        board.play(0, 1);
        board.play(0, 49);
        board.play(2, 5);
        board.trial(0, 5);
        board.set(0, 0);
        EXPECT.due("undo() after refused calls", board.undo(), 1);
        EXPECT.looksLike("the last that was not refused", board, "X......");
    }

    private static void noneToTakeBack() {
        EXPECT.says("Promise 4: TAKEN if there is none");
        GoBoard board = new GoBoard();
        EXPECT.refused("a new object", board, b -> b.undo(), GoBoard.TAKEN);
        EXPECT.due("once more", board.undo(), GoBoard.TAKEN);
        board.play(0, 49);
        EXPECT.refused("after a refused move", board, b -> b.undo(), GoBoard.TAKEN);
        board.play(0, 0);
        board.undo();
        EXPECT.refused("after a move taken back", board, b -> b.undo(), GoBoard.TAKEN);
        board.pass();
        board.undo();
        EXPECT.due("after a pass taken back", board.undo(), GoBoard.TAKEN);

        GoBoard set = new GoBoard();
        set.play(0, 0);
        set.set(1, 24);
        EXPECT.refused("after set", set, b -> b.undo(), GoBoard.TAKEN);
        set.play(0, 1);
        set.set(2, 24);
        EXPECT.refused("after set that takes off", set, b -> b.undo(), GoBoard.TAKEN);
    }

    private static void numberLeft() {
        EXPECT.says("Promise 4: otherwise the number of moves and passes done that are left");
        GoBoard board = Expect.drawn("XO.....");
        for (int q = 7; q < 47; q++) {
            board.play(1, q);
        }
        EXPECT.due("captured(1) after 40 moves", board.captured(1), 1);
        for (int left = 39; left >= 0; left--) {
            EXPECT.due("undo() to " + left, board.undo(), left);
            EXPECT.due("the stone of move " + (left + 1), board.at(7 + left), 2);
        }
        EXPECT.looksLike("40 moves undone", board, "XO.....");
        EXPECT.refused("one too many", board, b -> b.undo(), GoBoard.TAKEN);

        GoBoard passes = new GoBoard();
        Expect.passes(passes, 50);
        EXPECT.due("after 40 passes and 10 refused ones", passes.undo(), 39);
    }

    private static void goesOnAfterwards() {
        EXPECT.says("Promise 4: what was taken back leaves nothing behind");
        GoBoard board = Expect.drawn("XO.....");
        board.play(1, 7);
        board.play(1, 0);
        board.undo();
        board.undo();
        EXPECT.due("another move in its place", board.play(0, 7), 0);
        EXPECT.looksLike("another move in its place", board, "XO.....", "X......");
        EXPECT.due("captured(1)", board.captured(1), 0);
        EXPECT.due("done()", board.done(), 1);
        EXPECT.due("undo()", board.undo(), 0);
        EXPECT.looksLike("taken back in its turn", board, "XO.....");
    }
}
