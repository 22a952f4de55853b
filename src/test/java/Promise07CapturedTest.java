public final class Promise07CapturedTest {
    public static void main(String[] args) {
        Expect expect = new Expect();
        GoBoard board = Expect.drawn("XO...OO", ".....XX");
        expect.due("captured(0) at first", board.captured(0), 0);
        expect.due("play(1, 7)", board.play(1, 7), 1);
        counts(expect, board, 0, 1);
        expect.due("play(0, 4)", board.play(0, 4), 2);
        counts(expect, board, 2, 1);
        expect.due("play(0, 0)", board.play(0, 0), GoBoard.SUICIDE);
        expect.due("trial(1, 0)", board.trial(1, 0), 0);
        counts(expect, board, 2, 1);
        board.play(0, 2);
        expect.due("play(0, 8)", board.play(0, 8), 0);
        expect.due("play(0, 0)", board.play(0, 0), 1);
        counts(expect, board, 3, 1);
        board.undo();
        counts(expect, board, 2, 1);
        board.undo();
        board.undo();
        board.undo();
        counts(expect, board, 0, 1);
        board.undo();
        counts(expect, board, 0, 0);
        board.play(1, 7);
        expect.due("set(2, 1)", board.set(2, 1), 0);
        counts(expect, board, 0, 0);
        for (int p : Expect.NOT_A_PLAYER) {
            expect.due("captured(" + p + ")", board.captured(p), GoBoard.BAD_ARG);
        }
        expect.end();
    }

    private static void counts(Expect expect, GoBoard board, int of0, int of1) {
        expect.due("captured(0), " + board.done() + " done", board.captured(0), of0);
        expect.due("captured(1), " + board.done() + " done", board.captured(1), of1);
    }
}
