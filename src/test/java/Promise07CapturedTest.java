public final class Promise07CapturedTest {
    private static final Expect EXPECT = new Expect();

    public static void main(String[] args) {
        countsWhatMovesCaptured();
        refusedMovesCaptureNothing();
        moreThanTheBoardHolds();
        takenBack();
        sinceTheLastSet();
        playerOutOfRange();
        EXPECT.end();
    }

    private static void counts(GoBoard board, int of0, int of1) {
        EXPECT.due("captured(0) with " + board.done() + " done", board.captured(0), of0);
        EXPECT.due("captured(1) with " + board.done() + " done", board.captured(1), of1);
    }

    private static GoBoard ready() {
        return Expect.drawn("XO...OO", ".....XX");
    }

    private static void countsWhatMovesCaptured() {
        EXPECT.says("Promise 7: how many stones player p has captured by moves");
        GoBoard board = ready();
        counts(board, 0, 0);
        board.play(1, 7);
        counts(board, 0, 1);
        board.play(0, 4);
        counts(board, 2, 1);
        board.play(0, 2);
        board.play(0, 8);
        counts(board, 2, 1);
        EXPECT.due("play(0, 0)", board.play(0, 0), 1);
        counts(board, 3, 1);
        board.pass();
        counts(board, 3, 1);
    }

    private static void refusedMovesCaptureNothing() {
        EXPECT.says("Promise 7: a refused move and a trial capture nothing");
        GoBoard board = ready();
        EXPECT.due("trial(1, 7)", board.trial(1, 7), 1);
        counts(board, 0, 0);
        Expect.passes(board, 40);
        EXPECT.due("play(1, 7)", board.play(1, 7), GoBoard.FULL);
        counts(board, 0, 0);

        GoBoard ko = Expect.drawn(".OX....", "OX.X...", ".OX....");
        ko.play(1, 9);
        EXPECT.due("play(0, 8)", ko.play(0, 8), GoBoard.KO);
        counts(ko, 0, 1);
    }

    private static void moreThanTheBoardHolds() {
        EXPECT.says("Promise 7: the captures of all moves together, more than 49");
        GoBoard board = Expect.drawn(
                "XXXXXXX", "XXXXXXX", "XXXXXXX", "XXX.XXX", "XXXXXXX", "XXXXXXX", "XXXXXXX");
        EXPECT.due("play(1, 24)", board.play(1, 24), 48);
        counts(board, 0, 48);
        int[][] corners = {{0, 1, 7}, {6, 5, 13}, {42, 43, 35}, {48, 47, 41}};
        int captures = 48;
        for (int[] corner : corners) {
            board.play(1, corner[1]);
            board.play(0, corner[0]);
            EXPECT.due("a stone in the corner " + corner[0], board.play(1, corner[2]), 1);
            captures++;
            counts(board, 0, captures);
        }
        EXPECT.due("captured(1) at last", board.captured(1), 52);
    }

    private static void takenBack() {
        EXPECT.says("Promise 7: by moves that were not taken back");
        GoBoard board = ready();
        board.play(1, 7);
        board.play(0, 4);
        board.pass();
        board.undo();
        counts(board, 2, 1);
        board.undo();
        counts(board, 0, 1);
        board.undo();
        counts(board, 0, 0);
        board.play(0, 4);
        counts(board, 2, 0);
    }

    private static void sinceTheLastSet() {
        EXPECT.says("Promise 7: and since the last set");
        GoBoard put = ready();
        put.play(1, 7);
        put.play(0, 4);
        put.set(0, 3);
        counts(put, 0, 0);
        put.play(1, 10);
        put.play(1, 2);
        counts(put, 0, 0);

        GoBoard off = ready();
        off.play(1, 7);
        off.play(0, 4);
        off.set(2, 4);
        counts(off, 0, 0);

        GoBoard refused = ready();
        refused.play(1, 7);
        refused.play(0, 4);
        refused.set(2, 0);
        refused.set(0, 49);
        counts(refused, 2, 1);

        GoBoard again = ready();
        again.play(1, 7);
        again.set(0, 24);
        EXPECT.due("play(0, 4)", again.play(0, 4), 2);
        counts(again, 2, 0);
        again.undo();
        counts(again, 0, 0);
    }

    private static void playerOutOfRange() {
        EXPECT.says("Promise 7: BAD_ARG if p is not 0 or 1");
        for (int p : Expect.NOT_A_PLAYER) {
            GoBoard board = ready();
            board.play(1, 7);
            EXPECT.refused("captured(" + p + ")", board, b -> b.captured(p), GoBoard.BAD_ARG);
            Expect.passes(board, 39);
            EXPECT.due("captured(" + p + ") with 40 done", board.captured(p), GoBoard.BAD_ARG);
            EXPECT.due("captured(" + p + "), empty board", new GoBoard().captured(p), GoBoard.BAD_ARG);
        }
    }
}
