public final class Promise01NewObjectTest {
    private static final Expect EXPECT = new Expect();

    public static void main(String[] args) {
        boardIsEmpty();
        nothingWasDone();
        objectsShareNothing();
        EXPECT.end();
    }

    private static void boardIsEmpty() {
        EXPECT.says("Promise 1: the board is empty");
        GoBoard board = new GoBoard();
        EXPECT.looksLike("a new object", board);
        EXPECT.due("region(0)", board.region(0), 49);
        EXPECT.due("region(48)", board.region(48), 49);
        for (int p = 0; p <= 1; p++) {
            EXPECT.due("groups(" + p + ")", board.groups(p), 0);
            EXPECT.due("inAtari(" + p + ")", board.inAtari(p), 0);
            EXPECT.due("score(" + p + ")", board.score(p), 0);
            EXPECT.due("moves(" + p + ")", board.moves(p), 49);
        }
        for (int q = 0; q < 49; q++) {
            EXPECT.due("groupSize(" + q + ")", board.groupSize(q), GoBoard.TAKEN);
            EXPECT.due("liberties(" + q + ")", board.liberties(q), GoBoard.TAKEN);
        }
    }

    private static void nothingWasDone() {
        EXPECT.says("Promise 1: nothing was done");
        GoBoard board = new GoBoard();
        EXPECT.due("done()", board.done(), 0);
        EXPECT.due("captured(0)", board.captured(0), 0);
        EXPECT.due("captured(1)", board.captured(1), 0);
        EXPECT.refused("undo()", board, b -> b.undo(), GoBoard.TAKEN);
        EXPECT.due("pass()", board.pass(), 1);
    }

    private static void objectsShareNothing() {
        EXPECT.says("Promise 1: also of a second object");
        GoBoard first = Expect.drawn("XO.....");
        first.play(1, 7);
        GoBoard second = new GoBoard();
        EXPECT.looksLike("the second object", second);
        EXPECT.due("done() of the second object", second.done(), 0);
        EXPECT.due("captured(1) of the second object", second.captured(1), 0);
        second.play(0, 48);
        EXPECT.due("at(48) of the first object", first.at(48), 2);
        EXPECT.due("done() of the first object", first.done(), 1);
    }
}
