public final class Promise16DoneTest {
    private static final Expect EXPECT = new Expect();

    public static void main(String[] args) {
        countsMovesAndPasses();
        refusedCallsDoNotCount();
        takenBackDoesNotCount();
        setStartsAgain();
        EXPECT.end();
    }

    private static void countsMovesAndPasses() {
        EXPECT.says("Promise 16: the number of moves and passes done, 0 to 40");
        GoBoard board = new GoBoard();
        EXPECT.due("done() of a new object", board.done(), 0);
        for (int n = 1; n <= 40; n++) {
            if (n % 2 == 0) {
                board.pass();
            } else {
                board.play(0, n);
            }
            EXPECT.due("done()", board.done(), n);
        }
    }

    private static void refusedCallsDoNotCount() {
        EXPECT.says("Promise 16: what was refused was not done");
        GoBoard board = Expect.drawn("XO...O.", "......O");
        board.play(1, 7);
        board.play(0, 0);
        board.play(0, 1);
        board.play(0, 6);
        board.play(2, 24);
        board.play(0, 49);
        board.trial(0, 24);
        board.set(0, 1);
        board.set(2, 24);
        board.set(3, 24);
        EXPECT.due("done()", board.done(), 1);
        Expect.passes(board, 39);
        board.pass();
        board.play(0, 24);
        EXPECT.due("done() when full", board.done(), 40);
    }

    private static void takenBackDoesNotCount() {
        EXPECT.says("Promise 16: that can be taken back");
        GoBoard board = new GoBoard();
        Expect.passes(board, 40);
        for (int left = 39; left >= 0; left--) {
            board.undo();
            EXPECT.due("done()", board.done(), left);
        }
        board.undo();
        EXPECT.due("done() after one undo too many", board.done(), 0);
        board.pass();
        EXPECT.due("done() after a pass", board.done(), 1);
    }

    private static void setStartsAgain() {
        EXPECT.says("Promise 16: after set nothing can be taken back");
        GoBoard board = new GoBoard();
        board.set(0, 30);
        EXPECT.due("done() after set alone", board.done(), 0);
        board.play(1, 31);
        board.pass();
        board.set(0, 32);
        EXPECT.due("done() after set", board.done(), 0);
        board.pass();
        board.set(2, 32);
        EXPECT.due("done() after set that takes off", board.done(), 0);
        Expect.passes(board, 45);
        EXPECT.due("done() when full", board.done(), 40);
    }
}
