public final class Promise06AtTest {
    private static final Expect EXPECT = new Expect();

    public static void main(String[] args) {
        stoneOrNone();
        afterMoves();
        pointOutOfRange();
        EXPECT.end();
    }

    private static void stoneOrNone() {
        EXPECT.says("Promise 6: 0 or 1 for a stone of this player, 2 for none");
        for (int shift = 0; shift < 3; shift++) {
            GoBoard board = new GoBoard();
            for (int q = 0; q < 49; q++) {
                board.set((q + shift) % 3, q);
            }
            for (int q = 0; q < 49; q++) {
                EXPECT.due("at(" + q + ")", board.at(q), (q + shift) % 3);
            }
        }
        EXPECT.looksLike("an empty board", new GoBoard());
    }

    private static void afterMoves() {
        EXPECT.says("Promise 6: what is at point q after a move, a capture and undo");
        GoBoard board = Expect.drawn("XO.....");
        board.play(1, 7);
        EXPECT.due("at(7), a stone played", board.at(7), 1);
        EXPECT.due("at(0), a stone captured", board.at(0), 2);
        board.undo();
        EXPECT.due("at(7), a stone taken back", board.at(7), 2);
        EXPECT.due("at(0), a capture taken back", board.at(0), 0);
    }

    private static void pointOutOfRange() {
        EXPECT.says("Promise 6: BAD_ARG if q is not 0 to 48");
        for (int q : Expect.NOT_A_POINT) {
            GoBoard board = Expect.drawn("XO.....");
            EXPECT.refused("at(" + q + ")", board, b -> b.at(q), GoBoard.BAD_ARG);
            EXPECT.due("at(" + q + "), empty board", new GoBoard().at(q), GoBoard.BAD_ARG);
        }
    }
}
