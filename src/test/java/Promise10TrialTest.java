public final class Promise10TrialTest {
    private static final Expect EXPECT = new Expect();

    public static void main(String[] args) {
        GoBoard board = Expect.drawn(".OX...X", "OX.X..X", ".OX...O", "......O");
        EXPECT.refused("trial of a ko capture", board, b -> b.trial(1, 9), 1);
        EXPECT.refused("trial of a quiet move", board, b -> b.trial(0, 48), 0);
        board.play(1, 9);
        EXPECT.refused("trial of a ko", board, b -> b.trial(0, 8), GoBoard.KO);

        GoBoard corner = Expect.drawn(".O.....", "O......");
        EXPECT.refused("trial of a suicide", corner, b -> b.trial(0, 0), GoBoard.SUICIDE);
        EXPECT.refused("trial at a stone", corner, b -> b.trial(0, 1), GoBoard.TAKEN);
        EXPECT.refused("trial at a stone", corner, b -> b.trial(1, 1), GoBoard.TAKEN);

        fullDoesNotMatter();
        wrongArguments();
        EXPECT.end();
    }

    private static void fullDoesNotMatter() {
        GoBoard board = Expect.drawn(".OX....", "OX.X...", ".OX....", ".....O.", "....O.O");
        Expect.passes(board, 39);
        board.play(1, 9);
        EXPECT.due("play(0, 48)", board.play(0, 48), GoBoard.FULL);
        EXPECT.due("trial(0, 48)", board.trial(0, 48), 0);
        EXPECT.due("trial(0, 8)", board.trial(0, 8), GoBoard.KO);
        EXPECT.due("trial(0, 0)", board.trial(0, 0), GoBoard.SUICIDE);
        EXPECT.due("trial(0, 9)", board.trial(0, 9), GoBoard.TAKEN);
        EXPECT.due("trial(0, 49)", board.trial(0, 49), GoBoard.BAD_ARG);

        GoBoard capture = Expect.drawn("XXO....", "O......");
        Expect.passes(capture, 40);
        EXPECT.refused("trial of a capture when FULL", capture, b -> b.trial(1, 8), 2);
    }

    private static void wrongArguments() {
        GoBoard board = Expect.drawn("XO.....");
        for (int p : Expect.NOT_A_PLAYER) {
            EXPECT.due("trial(" + p + ", 5)", board.trial(p, 5), GoBoard.BAD_ARG);
            EXPECT.due("trial(" + p + ", 0)", board.trial(p, 0), GoBoard.BAD_ARG);
        }
        for (int q : Expect.NOT_A_POINT) {
            EXPECT.due("trial(0, " + q + ")", board.trial(0, q), GoBoard.BAD_ARG);
            EXPECT.due("trial(1, " + q + ")", board.trial(1, q), GoBoard.BAD_ARG);
        }
    }
}
