/** moves, and that FULL does not matter there. */
public final class Promise11And17MovesTest {
    private static final Expect EXPECT = new Expect();

    public static void main(String[] args) {
        emptyBoard();
        notAtAStone();
        notSuicide();
        notKo();
        captureIsNoSuicide();
        noEmptyPoint();
        captureFarAway();
        countsWhatTrialAllows();
        fullDoesNotMatter();
        playerOutOfRange();
        EXPECT.end();
    }

    private static void moves(GoBoard board, int of0, int of1) {
        EXPECT.due("moves(0)", board.moves(0), of0);
        EXPECT.due("moves(1)", board.moves(1), of1);
    }

    private static void emptyBoard() {
        EXPECT.says("Promise 11: all 49 points of an empty board");
        moves(new GoBoard(), 49, 49);
    }

    private static void notAtAStone() {
        EXPECT.says("Promise 11: a point with a stone is none to move at");
        moves(Expect.drawn("X.....O", ".......", ".......", ".......", ".......", ".......", "O.....X"),
                45, 45);
    }

    private static void notSuicide() {
        EXPECT.says("Promise 11: not SUICIDE");
        moves(Expect.drawn(".O...O.", "O.....O"), 43, 45);
        moves(Expect.drawn(".X...O.", "X.....O", ".......", ".......", ".......", "O.....X", ".O...X."),
                39, 39);
    }

    private static void notKo() {
        EXPECT.says("Promise 11: not KO");
        GoBoard ko = Expect.drawn(".OX....", "OX.X...", ".OX....");
        moves(ko, 42, 42);
        ko.play(1, 9);
        moves(ko, 40, 42);
        ko.pass();
        moves(ko, 41, 42);
        ko.undo();
        moves(ko, 40, 42);
        ko.set(0, 48);
        moves(ko, 40, 41);
    }

    private static void captureIsNoSuicide() {
        EXPECT.says("Promise 11: a capture that makes a liberty is not SUICIDE");
        moves(Expect.drawn(".OX....", "OX.....", "X......"), 44, 43);
    }

    private static void noEmptyPoint() {
        EXPECT.says("Promise 11: none on 49 stones, one point among 48");
        GoBoard whole = Expect.drawn(
                "XXXXXXX", "XXXXXXX", "XXXXXXX", "XXXXXXX", "XXXXXXX", "XXXXXXX", "XXXXXXX");
        moves(whole, 0, 0);
        whole.set(2, 48);
        moves(whole, 0, 1);
    }

    private static void captureFarAway() {
        EXPECT.says("Promise 11: a capture far away that makes its group a liberty is not SUICIDE");
        moves(Expect.drawn(
                ".XXXXXX", "XXXXXXX", "XXXXXXX", "XXXXXXX", "XXXXXXX", "XXXXXXX", "XXXXXXO"), 1, 1);
    }

    private static void countsWhatTrialAllows() {
        EXPECT.says("Promise 11: at how many points player p could move");
        String[] rows = {".OX.XO.", "OX.X.XO", ".OX..OX", ".......", "O...X..", ".O.X.X.", "O.O.X.X"};
        for (int p = 0; p <= 1; p++) {
            GoBoard board = Expect.drawn(rows);
            board.play(1, 9);
            int open = 0;
            for (int q = 0; q < 49; q++) {
                open += board.trial(p, q) >= 0 ? 1 : 0;
            }
            EXPECT.due("moves(" + p + ")", board.moves(p), open);
        }
    }

    private static void fullDoesNotMatter() {
        EXPECT.says("Promise 17: FULL does not matter there, as in trial");
        GoBoard empty = new GoBoard();
        Expect.passes(empty, 40);
        EXPECT.due("play(0, 48)", empty.play(0, 48), GoBoard.FULL);
        moves(empty, 49, 49);

        GoBoard board = Expect.drawn(".OX....", "OX.X...", ".OX....");
        Expect.passes(board, 39);
        moves(board, 42, 42);
        board.play(1, 9);
        EXPECT.due("play(0, 48)", board.play(0, 48), GoBoard.FULL);
        moves(board, 40, 42);
        board.undo();
        moves(board, 42, 42);
    }

    private static void playerOutOfRange() {
        EXPECT.says("Promise 11: BAD_ARG if p is not 0 or 1");
        for (int p : Expect.NOT_A_PLAYER) {
            GoBoard board = Expect.drawn("XO.....");
            board.play(1, 7);
            EXPECT.refused("moves(" + p + ")", board, b -> b.moves(p), GoBoard.BAD_ARG);
            EXPECT.due("moves(" + p + "), empty board", new GoBoard().moves(p), GoBoard.BAD_ARG);
        }
    }
}
