public final class Promise16DoneTest {
    public static void main(String[] args) {
        Expect expect = new Expect();
        GoBoard board = new GoBoard();
        expect.due("done() at first", board.done(), 0);
        board.play(0, 0);
        expect.due("done() after a move", board.done(), 1);
        board.pass();
        expect.due("done() after a pass", board.done(), 2);
        board.play(1, 0);
        board.play(2, 5);
        board.trial(1, 5);
        expect.due("done() after refused moves and a trial", board.done(), 2);
        board.undo();
        expect.due("done() after undo", board.done(), 1);
        board.undo();
        board.undo();
        expect.due("done() after one undo too many", board.done(), 0);
        board.pass();
        board.set(2, 30);
        expect.due("done() after a refused set", board.done(), 1);
        board.set(0, 30);
        expect.due("done() after set", board.done(), 0);
        Expect.passes(board, 45);
        expect.due("done() when FULL", board.done(), 40);
        expect.end();
    }
}
