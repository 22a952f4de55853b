public final class Promise04UndoTest {
    public static void main(String[] args) {
        Expect expect = new Expect();
        nothingToUndo(expect);
        capturesComeBack(expect);
        allTheWayBack(expect);
        expect.end();
    }

    private static void nothingToUndo(Expect expect) {
        GoBoard board = Expect.drawn("XO.....");
        expect.refused("undo() after set", board, b -> b.undo(), GoBoard.TAKEN);
        board.play(0, 48);
        expect.due("undo()", board.undo(), 0);
        expect.refused("undo() of nothing", board, b -> b.undo(), GoBoard.TAKEN);
        board.play(0, 47);
        board.play(0, 49);
        expect.due("undo() passes over a refused move", board.undo(), 0);
        expect.looksLike("undone", board, "XO.....");
    }

    private static void capturesComeBack(Expect expect) {
        GoBoard board = Expect.drawn("X.XO...", "OOO....", "XO.....", "......X");
        board.play(0, 21);
        expect.due("play(1, 1)", board.play(1, 1), 2);
        expect.due("play(0, 20)", board.play(0, 20), 0);
        expect.due("pass()", board.pass(), 4);
        expect.due("undo() of a pass", board.undo(), 3);
        expect.due("captured(1), the pass undone", board.captured(1), 2);
        expect.due("undo() of a move", board.undo(), 2);
        expect.looksLike("a move undone", board, ".O.O...", "OOO....", "XO.....", "X.....X");
        expect.due("captured(1), a move undone", board.captured(1), 2);
        expect.due("undo() of a capture", board.undo(), 1);
        expect.looksLike("a capture undone", board, "X.XO...", "OOO....", "XO.....", "X.....X");
        expect.due("captured(1), the capture undone", board.captured(1), 0);
        expect.due("another move in its place", board.play(0, 1), GoBoard.SUICIDE);
        expect.due("another move in its place", board.play(1, 48), 0);
        expect.due("done()", board.done(), 2);
        expect.due("undo()", board.undo(), 1);
        expect.due("undo()", board.undo(), 0);
        expect.looksLike("all undone", board, "X.XO...", "OOO....", "XO.....", "......X");
    }

    private static void allTheWayBack(Expect expect) {
        GoBoard board = Expect.drawn("XO.....");
        for (int q = 7; q < 47; q++) {
            board.play(1, q);
        }
        expect.due("captured(1) after 40 moves", board.captured(1), 1);
        for (int left = 39; left >= 0; left--) {
            expect.due("undo() to " + left, board.undo(), left);
            expect.due("the stone of move " + (left + 1), board.at(7 + left), 2);
        }
        expect.looksLike("40 moves undone", board, "XO.....");
        expect.due("captured(1), 40 moves undone", board.captured(1), 0);
        expect.due("undo()", board.undo(), GoBoard.TAKEN);
    }
}
