public final class Promise05SetTest {
    private static final Expect EXPECT = new Expect();

    public static void main(String[] args) {
        putAndTakeOff();
        nothingElseHappens();
        whatWasDoneIsForgotten();
        wrongArguments();
        taken();
        EXPECT.end();
    }

    private static void putAndTakeOff() {
        GoBoard board = new GoBoard();
        EXPECT.due("set(0, 0)", board.set(0, 0), 0);
        EXPECT.due("set(1, 48)", board.set(1, 48), 0);
        EXPECT.due("set(1, 1)", board.set(1, 1), 0);
        EXPECT.looksLike("three set", board,
                "XO.....", ".......", ".......", ".......", ".......", ".......", "......O");
        EXPECT.due("set(2, 0)", board.set(2, 0), 0);
        EXPECT.due("set(2, 48)", board.set(2, 48), 0);
        EXPECT.looksLike("two taken off", board, ".O.....");
        EXPECT.due("set(0, 48) in its place", board.set(0, 48), 0);
        EXPECT.due("at(48)", board.at(48), 0);
    }

    private static void nothingElseHappens() {
        GoBoard board = Expect.drawn("XO.....");
        EXPECT.due("set(1, 7)", board.set(1, 7), 0);
        EXPECT.looksLike("no capture by set", board, "XO.....", "O......");
        EXPECT.due("captured(1)", board.captured(1), 0);
        EXPECT.due("liberties(0)", board.liberties(0), 0);
        EXPECT.due("done()", board.done(), 0);

        GoBoard suicide = Expect.drawn(".O.....", "O......");
        EXPECT.due("no suicide by set", suicide.set(0, 0), 0);
        EXPECT.due("a move takes it off", suicide.play(1, 48), 1);

        GoBoard whole = new GoBoard();
        for (int q = 0; q < 49; q++) {
            EXPECT.due("set(0, " + q + ")", whole.set(0, q), 0);
        }
        EXPECT.due("groupSize(0) of a whole board", whole.groupSize(0), 49);
    }

    private static void whatWasDoneIsForgotten() {
        GoBoard board = Expect.drawn("XO...OX", ".......", ".......", ".......", ".......", "O......");
        board.play(1, 7);
        board.play(1, 13);
        board.play(0, 42);
        board.play(0, 28);
        EXPECT.due("play(0, 36)", board.play(0, 36), 1);
        EXPECT.due("captured(0) before set", board.captured(0), 1);
        EXPECT.due("captured(1) before set", board.captured(1), 2);
        EXPECT.refused("a refused set forgets nothing", board, b -> b.set(1, 7), GoBoard.TAKEN);
        EXPECT.due("set(0, 24)", board.set(0, 24), 0);
        EXPECT.looksLike("the board stays", board,
                ".O...O.", "O.....O", ".......", "...X...", "X......", ".X.....", "X......");
        EXPECT.due("done() after set", board.done(), 0);
        EXPECT.due("undo() after set", board.undo(), GoBoard.TAKEN);
        EXPECT.due("captured(0) after set", board.captured(0), 0);
        EXPECT.due("captured(1) after set", board.captured(1), 0);
        board.pass();
        EXPECT.due("set(2, 24)", board.set(2, 24), 0);
        EXPECT.due("done() after taking off", board.done(), 0);

        GoBoard full = new GoBoard();
        Expect.passes(full, 40);
        EXPECT.due("set when FULL", full.set(0, 0), 0);
        EXPECT.due("play(0, 1) after it", full.play(0, 1), 0);
        Expect.passes(full, 38);
        EXPECT.due("pass() number 40 after it", full.pass(), 40);
        EXPECT.due("pass() number 41 after it", full.pass(), GoBoard.FULL);
    }

    private static void wrongArguments() {
        for (int p : Expect.NOT_A_PLAYER) {
            if (p != 2) {
                GoBoard board = Expect.drawn("XO.....");
                board.pass();
                EXPECT.refused("set(" + p + ", 5)", board, b -> b.set(p, 5), GoBoard.BAD_ARG);
                EXPECT.refused("set(" + p + ", 1)", board, b -> b.set(p, 1), GoBoard.BAD_ARG);
            }
        }
        for (int q : Expect.NOT_A_POINT) {
            GoBoard board = Expect.drawn("XO.....");
            board.pass();
            EXPECT.refused("set(0, " + q + ")", board, b -> b.set(0, q), GoBoard.BAD_ARG);
            EXPECT.refused("set(1, " + q + ")", board, b -> b.set(1, q), GoBoard.BAD_ARG);
            EXPECT.refused("set(2, " + q + ")", board, b -> b.set(2, q), GoBoard.BAD_ARG);
        }
    }

    private static void taken() {
        GoBoard board = Expect.drawn("XO.....");
        board.pass();
        EXPECT.refused("set(0, 0)", board, b -> b.set(0, 0), GoBoard.TAKEN);
        EXPECT.refused("set(1, 0)", board, b -> b.set(1, 0), GoBoard.TAKEN);
        EXPECT.refused("set(2, 2)", board, b -> b.set(2, 2), GoBoard.TAKEN);
        GoBoard second = Expect.drawn("XO.....");
        second.pass();
        EXPECT.refused("set(0, 1)", second, b -> b.set(0, 1), GoBoard.TAKEN);
        EXPECT.refused("set(1, 1)", second, b -> b.set(1, 1), GoBoard.TAKEN);
    }
}
