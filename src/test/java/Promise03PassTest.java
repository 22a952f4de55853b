public final class Promise03PassTest {
    private static final Expect EXPECT = new Expect();

    public static void main(String[] args) {
        nothingChangesOnTheBoard();
        fullAfterForty();
        numberDone();
        EXPECT.end();
    }

    private static void nothingChangesOnTheBoard() {
        EXPECT.says("Promise 3: nothing changes on the board");
        GoBoard board = Expect.drawn("XO.....");
        board.play(1, 7);
        EXPECT.due("pass()", board.pass(), 2);
        EXPECT.looksLike("after a pass", board, ".O.....", "O......");
        EXPECT.due("captured(0)", board.captured(0), 0);
        EXPECT.due("captured(1)", board.captured(1), 1);

        GoBoard empty = new GoBoard();
        EXPECT.due("pass() on an empty board", empty.pass(), 1);
        EXPECT.looksLike("an empty board", empty);

        GoBoard dead = Expect.drawn("XO...XO", "O.....X");
        EXPECT.due("pass() with groups without liberties", dead.pass(), 1);
        EXPECT.looksLike("groups without liberties", dead, "XO...XO", "O.....X");

        String[] chequered = {
            "XOXOXOX", "OXOXOXO", "XOXOXOX", "OXOXOXO", "XOXOXOX", "OXOXOXO", "XOXOXOX",
        };
        GoBoard whole = Expect.drawn(chequered);
        EXPECT.due("pass() on 49 stones", whole.pass(), 1);
        EXPECT.looksLike("49 stones", whole, chequered);
    }

    private static void fullAfterForty() {
        EXPECT.says("Promise 3: FULL if 40 moves and passes were done");
        GoBoard passes = new GoBoard();
        Expect.passes(passes, 39);
        EXPECT.due("pass() number 40", passes.pass(), 40);
        EXPECT.refused("pass() number 41", passes, b -> b.pass(), GoBoard.FULL);
        EXPECT.refused("once more", passes, b -> b.pass(), GoBoard.FULL);

        GoBoard moves = new GoBoard();
        for (int q = 0; q < 40; q++) {
            moves.play(q % 2, q);
        }
        EXPECT.refused("after 40 moves", moves, b -> b.pass(), GoBoard.FULL);

        GoBoard both = new GoBoard();
        for (int q = 0; q < 20; q++) {
            both.pass();
            both.play(1, q);
        }
        EXPECT.refused("after 20 of each", both, b -> b.pass(), GoBoard.FULL);
    }

    private static void numberDone() {
        EXPECT.says("Promise 3: otherwise the number of moves and passes done");
        GoBoard board = new GoBoard();
        EXPECT.due("the first of all", board.pass(), 1);
        board.play(0, 0);
        EXPECT.due("a move counts", board.pass(), 3);
        board.play(0, 0);
        board.trial(0, 1);
        EXPECT.due("a refused move and a trial do not", board.pass(), 4);
        board.undo();
        board.undo();
        EXPECT.due("what was taken back does not", board.pass(), 3);
        for (int n = 4; n <= 40; n++) {
            EXPECT.due("pass() number " + n, board.pass(), n);
        }
        board.undo();
        EXPECT.due("after 40 and an undo", board.pass(), 40);
        board.set(0, 48);
        EXPECT.due("after set", board.pass(), 1);
    }
}
