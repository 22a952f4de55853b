public final class Promise10TrialTest {
    private static final Expect EXPECT = new Expect();

    public static void main(String[] args) {
        answersAsPlayWould();
        playerOutOfRange();
        pointOutOfRange();
        stoneThere();
        suicide();
        ko();
        fullDoesNotMatter();
        nothingIsChanged();
        EXPECT.end();
    }

    private static GoBoard mixed() {
        return Expect.drawn(".OX...X", "OX.X..X", ".OX...O", "......O", ".......", "O......", ".O.....");
    }

    private static void answersAsPlayWould() {
        EXPECT.says("Promise 10: what play(p, q) would answer");
        for (int p = 0; p <= 1; p++) {
            for (int q = 0; q < 49; q++) {
                GoBoard tried = mixed();
                GoBoard played = mixed();
                tried.play(1, 9);
                played.play(1, 9);
                EXPECT.due("trial(" + p + ", " + q + ")", tried.trial(p, q), played.play(p, q));
            }
        }
        EXPECT.due("a quiet move", mixed().trial(0, 48), 0);
        EXPECT.due("a capture of one", mixed().trial(1, 9), 1);
        EXPECT.due("a capture of 48", Expect.drawn("XXXXXXX", "XXXXXXX", "XXXXXXX", "XXX.XXX",
                "XXXXXXX", "XXXXXXX", "XXXXXXX").trial(1, 24), 48);
        EXPECT.due("a group far away that set left",
                Expect.drawn("XO.....", "O......").trial(1, 48), 1);
    }

    private static void playerOutOfRange() {
        EXPECT.says("Promise 10: BAD_ARG as play, p not 0 or 1");
        GoBoard board = mixed();
        for (int p : Expect.NOT_A_PLAYER) {
            EXPECT.due("trial(" + p + ", 48)", board.trial(p, 48), GoBoard.BAD_ARG);
            EXPECT.due("trial(" + p + ", 1), a stone", board.trial(p, 1), GoBoard.BAD_ARG);
            EXPECT.due("trial(" + p + ", 42), a suicide", board.trial(p, 42), GoBoard.BAD_ARG);
        }
    }

    private static void pointOutOfRange() {
        EXPECT.says("Promise 10: BAD_ARG as play, q not 0 to 48");
        GoBoard board = mixed();
        for (int q : Expect.NOT_A_POINT) {
            EXPECT.due("trial(0, " + q + ")", board.trial(0, q), GoBoard.BAD_ARG);
            EXPECT.due("trial(1, " + q + ")", board.trial(1, q), GoBoard.BAD_ARG);
            EXPECT.due("trial(2, " + q + ")", board.trial(2, q), GoBoard.BAD_ARG);
        }
    }

    private static void stoneThere() {
        EXPECT.says("Promise 10: TAKEN as play");
        GoBoard board = mixed();
        for (int p = 0; p <= 1; p++) {
            int player = p;
            EXPECT.refused("at a stone of 1", board, b -> b.trial(player, 1), GoBoard.TAKEN);
            EXPECT.refused("at a stone of 0", board, b -> b.trial(player, 2), GoBoard.TAKEN);
        }
    }

    private static void suicide() {
        EXPECT.says("Promise 10: SUICIDE as play");
        GoBoard board = mixed();
        EXPECT.refused("trial(0, 42)", board, b -> b.trial(0, 42), GoBoard.SUICIDE);
        EXPECT.changesNothing("trial(1, 42)", board, b -> b.trial(1, 42), 0);
    }

    private static void ko() {
        EXPECT.says("Promise 10: KO as play");
        GoBoard board = mixed();
        board.play(1, 9);
        EXPECT.refused("trial(0, 8)", board, b -> b.trial(0, 8), GoBoard.KO);
        EXPECT.changesNothing("trial(1, 8)", board, b -> b.trial(1, 8), 0);
        board.pass();
        EXPECT.changesNothing("after a pass", board, b -> b.trial(0, 8), 1);
        board.undo();
        EXPECT.refused("the pass taken back", board, b -> b.trial(0, 8), GoBoard.KO);
    }

    private static void fullDoesNotMatter() {
        EXPECT.says("Promise 10: if it were not for FULL");
        GoBoard board = mixed();
        Expect.passes(board, 39);
        board.play(1, 9);
        EXPECT.due("play(0, 48)", board.play(0, 48), GoBoard.FULL);
        EXPECT.changesNothing("trial(0, 48)", board, b -> b.trial(0, 48), 0);
        EXPECT.refused("trial(0, 8)", board, b -> b.trial(0, 8), GoBoard.KO);
        EXPECT.refused("trial(0, 42)", board, b -> b.trial(0, 42), GoBoard.SUICIDE);
        EXPECT.due("trial(0, 9)", board.trial(0, 9), GoBoard.TAKEN);
        EXPECT.due("trial(0, 49)", board.trial(0, 49), GoBoard.BAD_ARG);
        EXPECT.due("trial(2, 48)", board.trial(2, 48), GoBoard.BAD_ARG);

        GoBoard capture = Expect.drawn("XXO....", "O......");
        Expect.passes(capture, 40);
        EXPECT.changesNothing("a capture", capture, b -> b.trial(1, 8), 2);
    }

    private static void nothingIsChanged() {
        EXPECT.says("Promise 10: nothing is changed");
        GoBoard board = mixed();
        board.play(1, 9);
        for (int q = 0; q < 49; q++) {
            board.trial(0, q);
            board.trial(1, q);
        }
        EXPECT.looksLike("after 98 trials", board,
                ".OX...X", "O.OX..X", ".OX...O", "......O", ".......", "O......", ".O.....");
        EXPECT.due("captured(1)", board.captured(1), 1);
        EXPECT.due("done()", board.done(), 1);
        EXPECT.due("trial(0, 8), the ko", board.trial(0, 8), GoBoard.KO);
        EXPECT.due("undo()", board.undo(), 0);
        EXPECT.looksLike("undone", board,
                ".OX...X", "OX.X..X", ".OX...O", "......O", ".......", "O......", ".O.....");
    }
}
