/** "An object is used for at most 512 calls": all 512 of them are answered as due. */
public final class CallLimitTest {
    private static final int CALLS = 512;
    private static final Expect EXPECT = new Expect();

    public static void main(String[] args) {
        EXPECT.says("What it is: an object is used for at most 512 calls after it has been made");
        passesOnly();
        passAndUndo();
        setAndTakeOff();
        captureAndUndo();
        fortyMovesAndSet();
        questionsOnly();
        EXPECT.end();
    }

    private static void passesOnly() {
        GoBoard board = new GoBoard();
        for (int call = 1; call <= CALLS; call++) {
            EXPECT.due("pass() as call " + call, board.pass(), call <= 40 ? call : GoBoard.FULL);
        }
    }

    private static void passAndUndo() {
        GoBoard board = new GoBoard();
        for (int call = 1; call <= CALLS; call += 2) {
            EXPECT.due("pass() as call " + call, board.pass(), 1);
            EXPECT.due("undo() as call " + (call + 1), board.undo(), 0);
        }
    }

    private static void setAndTakeOff() {
        GoBoard board = new GoBoard();
        for (int call = 1; call <= CALLS; call += 2) {
            int q = call / 2 % 49;
            EXPECT.due("set(1, " + q + ") as call " + call, board.set(1, q), 0);
            EXPECT.due("set(2, " + q + ") as call " + (call + 1), board.set(2, q), 0);
        }
    }

    private static void captureAndUndo() {
        GoBoard board = new GoBoard();
        board.set(0, 0);
        board.set(1, 1);
        for (int call = 3; call <= CALLS; call += 3) {
            EXPECT.due("play(1, 7) as call " + call, board.play(1, 7), 1);
            EXPECT.due("captured(1) as call " + (call + 1), board.captured(1), 1);
            EXPECT.due("undo() as call " + (call + 2), board.undo(), 0);
        }
    }

    private static void fortyMovesAndSet() {
        GoBoard board = new GoBoard();
        int call = 1;
        for (int round = 0; call + 41 + 41 <= CALLS; round++) {
            for (int q = 0; q < 40; q++, call++) {
                EXPECT.due("a move as call " + call, board.play(round % 2, q), 0);
            }
            for (int q = 0; q < 41; q++, call++) {
                int taken = q < 40 ? 0 : GoBoard.TAKEN;
                EXPECT.due("set(2, " + q + ") as call " + call, board.set(2, q), taken);
            }
        }
        for (; call < CALLS; call++) {
            EXPECT.due("play(0, 49) as call " + call, board.play(0, 49), GoBoard.BAD_ARG);
        }
        EXPECT.due("moves(0) as call 512", board.moves(0), 49);
    }

    private static void questionsOnly() {
        GoBoard board = new GoBoard();
        board.play(0, 24);
        for (int call = 2; call < CALLS; call += 5) {
            EXPECT.due("score(0) as call " + call, board.score(0), 49);
            EXPECT.due("trial(1, 25) as call " + (call + 1), board.trial(1, 25), 0);
            EXPECT.due("liberties(24) as call " + (call + 2), board.liberties(24), 4);
            EXPECT.due("region(0) as call " + (call + 3), board.region(0), 48);
            EXPECT.due("moves(1) as call " + (call + 4), board.moves(1), 48);
        }
        EXPECT.due("done() as call 512", board.done(), 1);
    }
}
