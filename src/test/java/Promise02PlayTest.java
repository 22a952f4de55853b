public final class Promise02PlayTest {
    private static final Expect EXPECT = new Expect();

    public static void main(String[] args) {
        everyPointForBoth();
        playerOutOfRange();
        pointOutOfRange();
        badArgBeforeTheRest();
        stoneThere();
        takenBeforeTheRest();
        fullAfterForty();
        fullCountsWhatIsNotTakenBack();
        fullBeforeSuicide();
        fullBeforeKo();
        suicide();
        ko();
        numberCaptured();
        EXPECT.end();
    }

    /** Stones of both, and at 6 a suicide for player 0. */
    private static GoBoard mixed() {
        return Expect.drawn("XO...O.", "......O", ".......", ".......", ".......", ".......", "......X");
    }

    private static GoBoard readyForKo() {
        return Expect.drawn(".OX....", "OX.X...", ".OX....");
    }

    private static void everyPointForBoth() {
        EXPECT.says("Promise 2: p 0 or 1, q 0 to 48, an empty board");
        for (int p = 0; p <= 1; p++) {
            for (int q = 0; q < 49; q++) {
                GoBoard board = new GoBoard();
                EXPECT.due("play(" + p + ", " + q + ")", board.play(p, q), 0);
                for (int r = 0; r < 49; r++) {
                    EXPECT.due("at(" + r + ") after it", board.at(r), r == q ? p : 2);
                }
                EXPECT.due("done() after it", board.done(), 1);
            }
        }
    }

    private static void playerOutOfRange() {
        EXPECT.says("Promise 2: p not 0 or 1 answers BAD_ARG");
        for (int p : Expect.NOT_A_PLAYER) {
            GoBoard board = mixed();
            board.pass();
            EXPECT.refused("play(" + p + ", 24)", board, b -> b.play(p, 24), GoBoard.BAD_ARG);
        }
    }

    private static void pointOutOfRange() {
        EXPECT.says("Promise 2: q not 0 to 48 answers BAD_ARG");
        for (int q : Expect.NOT_A_POINT) {
            GoBoard board = mixed();
            board.pass();
            EXPECT.refused("play(0, " + q + ")", board, b -> b.play(0, q), GoBoard.BAD_ARG);
            EXPECT.refused("play(1, " + q + ")", board, b -> b.play(1, q), GoBoard.BAD_ARG);
            EXPECT.refused("play(2, " + q + ")", board, b -> b.play(2, q), GoBoard.BAD_ARG);
        }
    }

    private static void badArgBeforeTheRest() {
        EXPECT.says("Promise 2: tested in this order: BAD_ARG before TAKEN, FULL, SUICIDE");
        for (int p : Expect.NOT_A_PLAYER) {
            GoBoard board = mixed();
            EXPECT.refused("at a stone of 0", board, b -> b.play(p, 0), GoBoard.BAD_ARG);
            EXPECT.refused("at a stone of 1", board, b -> b.play(p, 1), GoBoard.BAD_ARG);
            EXPECT.refused("at a suicide", board, b -> b.play(p, 6), GoBoard.BAD_ARG);
            Expect.passes(board, 40);
            EXPECT.refused("when full", board, b -> b.play(p, 24), GoBoard.BAD_ARG);
        }
        for (int q : Expect.NOT_A_POINT) {
            GoBoard board = mixed();
            Expect.passes(board, 40);
            EXPECT.refused("when full", board, b -> b.play(0, q), GoBoard.BAD_ARG);
        }
    }

    private static void stoneThere() {
        EXPECT.says("Promise 2: a stone at q answers TAKEN");
        for (int p = 0; p <= 1; p++) {
            int player = p;
            GoBoard board = mixed();
            board.play(1, 24);
            EXPECT.refused("at a stone of 0", board, b -> b.play(player, 0), GoBoard.TAKEN);
            EXPECT.refused("at a stone of 1", board, b -> b.play(player, 1), GoBoard.TAKEN);
            EXPECT.refused("at the last point", board, b -> b.play(player, 48), GoBoard.TAKEN);
            EXPECT.refused("at a stone just played", board, b -> b.play(player, 24), GoBoard.TAKEN);
        }

        GoBoard whole = Expect.drawn(
                "XOXOXOX", "OXOXOXO", "XOXOXOX", "OXOXOXO", "XOXOXOX", "OXOXOXO", "XOXOXOX");
        for (int q = 0; q < 49; q++) {
            EXPECT.due("play(0, " + q + ") on 49 stones", whole.play(0, q), GoBoard.TAKEN);
            EXPECT.due("play(1, " + q + ") on 49 stones", whole.play(1, q), GoBoard.TAKEN);
        }
        EXPECT.due("done() on 49 stones", whole.done(), 0);
    }

    private static void takenBeforeTheRest() {
        EXPECT.says("Promise 2: tested in this order: TAKEN before FULL");
        GoBoard board = mixed();
        Expect.passes(board, 40);
        EXPECT.refused("play(0, 1)", board, b -> b.play(0, 1), GoBoard.TAKEN);
        EXPECT.refused("play(1, 1)", board, b -> b.play(1, 1), GoBoard.TAKEN);
        EXPECT.refused("play(1, 48)", board, b -> b.play(1, 48), GoBoard.TAKEN);
    }

    private static void fullAfterForty() {
        EXPECT.says("Promise 2: FULL if 40 moves and passes were done");
        GoBoard moves = new GoBoard();
        for (int q = 0; q < 40; q++) {
            EXPECT.due("move " + (q + 1), moves.play(0, q), 0);
        }
        EXPECT.refused("after 40 moves", moves, b -> b.play(0, 48), GoBoard.FULL);
        EXPECT.refused("after 40 moves", moves, b -> b.play(1, 48), GoBoard.FULL);

        GoBoard passes = new GoBoard();
        Expect.passes(passes, 39);
        EXPECT.changesNothing("after 39 passes", passes, b -> b.trial(0, 0), 0);
        passes.pass();
        EXPECT.refused("after 40 passes", passes, b -> b.play(0, 0), GoBoard.FULL);

        GoBoard both = new GoBoard();
        for (int q = 0; q < 20; q++) {
            both.play(1, q);
            both.pass();
        }
        EXPECT.refused("after 20 moves and 20 passes", both, b -> b.play(0, 48), GoBoard.FULL);

        GoBoard capture = Expect.drawn("XO.....");
        Expect.passes(capture, 40);
        EXPECT.refused("a capture", capture, b -> b.play(1, 7), GoBoard.FULL);
    }

    private static void fullCountsWhatIsNotTakenBack() {
        EXPECT.says("Promise 2: FULL no more once one is taken back or set has been called");
        GoBoard board = new GoBoard();
        Expect.passes(board, 40);
        board.undo();
        EXPECT.due("play(0, 0) as number 40 again", board.play(0, 0), 0);
        EXPECT.refused("play(0, 1)", board, b -> b.play(0, 1), GoBoard.FULL);
        board.set(1, 48);
        EXPECT.due("play(0, 1) after set", board.play(0, 1), 0);
        EXPECT.due("done()", board.done(), 1);

        GoBoard refused = new GoBoard();
        refused.play(0, 0);
        for (int i = 0; i < 50; i++) {
            refused.play(1, 0);
            refused.play(0, 49);
        }
        EXPECT.due("refused moves do not count", refused.play(1, 1), 0);
    }

    private static void fullBeforeSuicide() {
        EXPECT.says("Promise 2: tested in this order: FULL before SUICIDE");
        GoBoard board = Expect.drawn(".O.....", "O......");
        Expect.passes(board, 40);
        EXPECT.due("trial(0, 0)", board.trial(0, 0), GoBoard.SUICIDE);
        EXPECT.refused("play(0, 0)", board, b -> b.play(0, 0), GoBoard.FULL);
        board.undo();
        EXPECT.refused("with 39 done", board, b -> b.play(0, 0), GoBoard.SUICIDE);
    }

    private static void fullBeforeKo() {
        EXPECT.says("Promise 2: tested in this order: FULL before KO");
        GoBoard board = readyForKo();
        Expect.passes(board, 39);
        EXPECT.due("play(1, 9) as number 40", board.play(1, 9), 1);
        EXPECT.due("trial(0, 8)", board.trial(0, 8), GoBoard.KO);
        EXPECT.refused("play(0, 8)", board, b -> b.play(0, 8), GoBoard.FULL);
    }

    private static void suicide() {
        EXPECT.says("Promise 2: SUICIDE");
        GoBoard board = mixed();
        board.pass();
        EXPECT.refused("play(0, 6)", board, b -> b.play(0, 6), GoBoard.SUICIDE);
        EXPECT.due("play(1, 6)", board.play(1, 6), 0);
    }

    private static void ko() {
        EXPECT.says("Promise 2: KO");
        GoBoard board = readyForKo();
        board.play(1, 9);
        EXPECT.refused("play(0, 8)", board, b -> b.play(0, 8), GoBoard.KO);
        EXPECT.due("captured(1)", board.captured(1), 1);
        EXPECT.due("undo() takes back the move before", board.undo(), 0);
        EXPECT.looksLike("as before", board, ".OX....", "OX.X...", ".OX....");
    }

    private static void numberCaptured() {
        EXPECT.says("Promise 2: otherwise the number of stones captured");
        EXPECT.due("none", Expect.drawn("XO.....").play(0, 7), 0);
        EXPECT.due("one", Expect.drawn("XO.....").play(1, 7), 1);
        EXPECT.due("two of one group", Expect.drawn("XXO....", "O......").play(1, 8), 2);
        EXPECT.due("two groups", Expect.drawn("XO.....", ".......", "XO.....", "O......").play(1, 7), 2);
        EXPECT.due("48", Expect.drawn("XXXXXX.", "XXXXXXX", "XXXXXXX", "XXXXXXX", "XXXXXXX",
                "XXXXXXX", "XXXXXXX").play(1, 6), 48);
        EXPECT.due("24 single stones", Expect.drawn("XOXOXOX", "OXOXOXO", "XOXOXOX", "OXO.OXO",
                "XOXOXOX", "OXOXOXO", "XOXOXOX").play(0, 24), 24);

        GoBoard twice = Expect.drawn("XO...OX");
        EXPECT.due("a capture", twice.play(1, 7), 1);
        EXPECT.due("only those of this move", twice.play(1, 13), 1);
    }
}
