public final class Promise03PassTest {
    public static void main(String[] args) {
        Expect expect = new Expect();
        GoBoard board = Expect.drawn("XO.....");
        expect.due("play(1, 7)", board.play(1, 7), 1);
        expect.due("pass() after a move", board.pass(), 2);
        expect.due("pass() again", board.pass(), 3);
        expect.looksLike("after passes", board, ".O.....", "O......");
        expect.due("captured(1) after passes", board.captured(1), 1);
        expect.due("captured(0) after passes", board.captured(0), 0);
        for (int n = 4; n <= 40; n++) {
            expect.due("pass() number " + n, board.pass(), n);
        }
        expect.refused("pass() number 41", board, b -> b.pass(), GoBoard.FULL);
        expect.due("undo()", board.undo(), 39);
        expect.due("pass() after undo", board.pass(), 40);
        expect.due("set(0, 48)", board.set(0, 48), 0);
        expect.due("pass() after set", board.pass(), 1);
        deadStonesStay(expect);
        expect.end();
    }

    private static void deadStonesStay(Expect expect) {
        GoBoard board = Expect.drawn("XO.....", "O......");
        expect.due("pass() with a group without liberties", board.pass(), 1);
        expect.looksLike("a pass takes nothing off", board, "XO.....", "O......");
    }
}
