public final class Promise05SetTest {
    private static final Expect EXPECT = new Expect();

    public static void main(String[] args) {
        putsAStone();
        takesAStoneOff();
        nothingElse();
        nothingCanBeTakenBack();
        countsAsNotDone();
        playerOutOfRange();
        pointOutOfRange();
        badArgBeforeTaken();
        stoneThere();
        noStoneToTakeOff();
        refusedForgetsNothing();
        groupWithoutLibertiesStays();
        EXPECT.end();
    }

    private static void putsAStone() {
        EXPECT.says("Promise 5: puts a stone of player p at the empty point q; otherwise 0");
        for (int p = 0; p <= 1; p++) {
            GoBoard board = new GoBoard();
            for (int q = 0; q < 49; q++) {
                EXPECT.due("set(" + p + ", " + q + ")", board.set(p, q), 0);
                EXPECT.due("at(" + q + ")", board.at(q), p);
                EXPECT.due("score(" + p + ")", board.score(p), 49);
                EXPECT.due("region(48)", board.region(48), q < 48 ? 48 - q : GoBoard.TAKEN);
            }
            EXPECT.due("groupSize(0) of 49 stones", board.groupSize(0), 49);
        }
    }

    private static void takesAStoneOff() {
        EXPECT.says("Promise 5: for p = 2, takes the stone at q off; otherwise 0");
        for (int p = 0; p <= 1; p++) {
            GoBoard board = new GoBoard();
            for (int q = 0; q < 49; q++) {
                board.set(p, q);
            }
            for (int q = 0; q < 49; q++) {
                EXPECT.due("set(2, " + q + ")", board.set(2, q), 0);
                EXPECT.due("at(" + q + ")", board.at(q), 2);
                EXPECT.due("at(48)", board.at(48), q < 48 ? p : 2);
            }
            EXPECT.looksLike("all taken off", board);
            EXPECT.due("the other player's in its place", board.set(1 - p, 0), 0);
            EXPECT.due("at(0)", board.at(0), 1 - p);
        }
        GoBoard played = new GoBoard();
        played.play(1, 48);
        EXPECT.due("set(2, 48), a stone that was played", played.set(2, 48), 0);
        EXPECT.looksLike("a stone that was played", played);
    }

    private static void nothingElse() {
        EXPECT.says("Promise 5: without anything else");
        GoBoard capture = Expect.drawn("XO.....");
        EXPECT.due("no capture", capture.set(1, 7), 0);
        EXPECT.looksLike("no capture", capture, "XO.....", "O......");
        EXPECT.due("captured(1)", capture.captured(1), 0);
        EXPECT.due("done()", capture.done(), 0);

        GoBoard suicide = Expect.drawn(".O.....", "O......");
        EXPECT.due("no suicide", suicide.set(0, 0), 0);
        EXPECT.looksLike("no suicide", suicide, "XO.....", "O......");

        GoBoard ko = Expect.drawn(".OX....", "OX.X...", ".OX....");
        ko.play(1, 9);
        EXPECT.due("no ko", ko.set(0, 8), 0);
        EXPECT.looksLike("no ko and no capture", ko, ".OX....", "OXOX...", ".OX....");
    }

    private static void nothingCanBeTakenBack() {
        EXPECT.says("Promise 5: all moves and passes done so far can't be taken back any more");
        GoBoard board = Expect.drawn("XO...OX", ".......", ".......", ".......", ".......", "O......");
        board.play(1, 7);
        board.play(1, 13);
        board.play(0, 42);
        board.play(0, 28);
        EXPECT.due("play(0, 36)", board.play(0, 36), 1);
        EXPECT.due("set(0, 24)", board.set(0, 24), 0);
        EXPECT.looksLike("the board stays", board,
                ".O...O.", "O.....O", ".......", "...X...", "X......", ".X.....", "X......");
        EXPECT.refused("undo()", board, b -> b.undo(), GoBoard.TAKEN);
        board.pass();
        board.play(0, 48);
        EXPECT.due("set(2, 24)", board.set(2, 24), 0);
        EXPECT.refused("undo() after taking off", board, b -> b.undo(), GoBoard.TAKEN);
        board.pass();
        EXPECT.due("undo() of what was done since", board.undo(), 0);
        EXPECT.refused("undo() of what was done before", board, b -> b.undo(), GoBoard.TAKEN);
    }

    private static void countsAsNotDone() {
        EXPECT.says("Promise 5: all moves and passes done so far count as not done");
        for (int p = 0; p <= 2; p++) {
            GoBoard board = Expect.drawn("XO.....");
            Expect.passes(board, 40);
            int q = p == 2 ? 0 : 48;
            EXPECT.due("set(" + p + ", " + q + ") when 40 were done", board.set(p, q), 0);
            EXPECT.due("done()", board.done(), 0);
            EXPECT.due("play(0, 24)", board.play(0, 24), 0);
            Expect.passes(board, 38);
            EXPECT.due("pass() number 40", board.pass(), 40);
            EXPECT.refused("pass() number 41", board, b -> b.pass(), GoBoard.FULL);
        }
        GoBoard captured = Expect.drawn("XO...XO");
        captured.play(1, 7);
        captured.play(0, 13);
        captured.set(0, 24);
        EXPECT.due("captured(0)", captured.captured(0), 0);
        EXPECT.due("captured(1)", captured.captured(1), 0);
    }

    private static void playerOutOfRange() {
        EXPECT.says("Promise 5: p not 0 to 2 answers BAD_ARG");
        for (int p : Expect.NOT_A_PLAYER) {
            if (p != 2) {
                GoBoard board = Expect.drawn("XO.....");
                board.play(1, 7);
                EXPECT.refused("set(" + p + ", 24)", board, b -> b.set(p, 24), GoBoard.BAD_ARG);
            }
        }
    }

    private static void pointOutOfRange() {
        EXPECT.says("Promise 5: q not 0 to 48 answers BAD_ARG");
        for (int q : Expect.NOT_A_POINT) {
            GoBoard board = Expect.drawn("XO.....");
            board.play(1, 7);
            EXPECT.refused("set(0, " + q + ")", board, b -> b.set(0, q), GoBoard.BAD_ARG);
            EXPECT.refused("set(1, " + q + ")", board, b -> b.set(1, q), GoBoard.BAD_ARG);
            EXPECT.refused("set(2, " + q + ")", board, b -> b.set(2, q), GoBoard.BAD_ARG);
            EXPECT.refused("set(3, " + q + ")", board, b -> b.set(3, q), GoBoard.BAD_ARG);
        }
    }

    private static void badArgBeforeTaken() {
        EXPECT.says("Promise 5: tested in this order: BAD_ARG before TAKEN");
        for (int p : Expect.NOT_A_PLAYER) {
            if (p != 2) {
                GoBoard board = Expect.drawn("XO.....");
                board.pass();
                EXPECT.refused("set(" + p + ", 0)", board, b -> b.set(p, 0), GoBoard.BAD_ARG);
                EXPECT.refused("set(" + p + ", 1)", board, b -> b.set(p, 1), GoBoard.BAD_ARG);
            }
        }
    }

    private static void stoneThere() {
        EXPECT.says("Promise 5: a stone there answers TAKEN");
        for (int p = 0; p <= 1; p++) {
            int player = p;
            GoBoard board = Expect.drawn(
                    "XO.....", ".......", ".......", ".......", ".......", ".......", "......X");
            board.pass();
            EXPECT.refused("at a stone of 0", board, b -> b.set(player, 0), GoBoard.TAKEN);
            EXPECT.refused("at a stone of 1", board, b -> b.set(player, 1), GoBoard.TAKEN);
            EXPECT.refused("at the last point", board, b -> b.set(player, 48), GoBoard.TAKEN);
            board.play(1, 24);
            EXPECT.refused("at a stone played", board, b -> b.set(player, 24), GoBoard.TAKEN);
        }
    }

    private static void noStoneToTakeOff() {
        EXPECT.says("Promise 5: for p = 2: none answers TAKEN");
        GoBoard empty = new GoBoard();
        empty.pass();
        for (int q = 0; q < 49; q++) {
            EXPECT.due("set(2, " + q + ") on an empty board", empty.set(2, q), GoBoard.TAKEN);
        }
        EXPECT.due("done()", empty.done(), 1);

        GoBoard board = Expect.drawn("XO.....");
        board.play(1, 7);
        EXPECT.refused("where a stone was captured", board, b -> b.set(2, 0), GoBoard.TAKEN);
        EXPECT.due("set(2, 7)", board.set(2, 7), 0);
        board.pass();
        EXPECT.refused("where it was taken off before", board, b -> b.set(2, 7), GoBoard.TAKEN);
    }

    private static void refusedForgetsNothing() {
        EXPECT.says("A refused call changes nothing: set leaves what can be taken back");
        GoBoard board = Expect.drawn("XO.....");
        board.play(1, 7);
        board.pass();
        board.set(3, 24);
        board.set(0, 49);
        board.set(0, 7);
        board.set(2, 0);
        EXPECT.due("done()", board.done(), 2);
        EXPECT.due("undo()", board.undo(), 1);
        EXPECT.due("captured(1)", board.captured(1), 1);
        EXPECT.due("undo()", board.undo(), 0);
        EXPECT.looksLike("all taken back", board, "XO.....");
    }

    private static void groupWithoutLibertiesStays() {
        EXPECT.says("Promise 5: a group without liberties stays until a move takes it off");
        String[] corner = {"XO.....", "O......"};
        GoBoard board = Expect.drawn(corner);
        EXPECT.due("liberties(0)", board.liberties(0), 0);
        board.pass();
        EXPECT.looksLike("after a pass", board, corner);
        board.undo();
        EXPECT.looksLike("after undo", board, corner);
        board.trial(1, 24);
        EXPECT.looksLike("after a trial", board, corner);
        board.play(1, 0);
        EXPECT.looksLike("after a refused move", board, corner);
        board.set(1, 6);
        board.set(2, 6);
        EXPECT.looksLike("after set elsewhere", board, corner);
        EXPECT.due("a move of its own player", board.play(0, 24), 0);
        EXPECT.due("at(0)", board.at(0), 0);
        EXPECT.due("a move of the other player", board.play(1, 48), 1);
        EXPECT.due("at(0)", board.at(0), 2);
        EXPECT.due("captured(1)", board.captured(1), 1);

        GoBoard whole = Expect.drawn(
                "XXXXXXX", "XXXXXXX", "XXXXXXX", "XXXXXXX", "XXXXXXX", "XXXXXXX", "XXXXXXX");
        EXPECT.due("49 stones: liberties(0)", whole.liberties(0), 0);
        EXPECT.due("49 stones: pass()", whole.pass(), 1);
        EXPECT.due("49 stones: groupSize(48)", whole.groupSize(48), 49);
    }
}
