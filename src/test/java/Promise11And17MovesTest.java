/** moves, and that FULL does not matter there. */
public final class Promise11And17MovesTest {
    private static final Expect EXPECT = new Expect();

    public static void main(String[] args) {
        GoBoard suicide = Expect.drawn(".O...O.", "O.....O");
        moves(suicide, 43, 45);

        GoBoard ko = Expect.drawn(".OX....", "OX.X...", ".OX....");
        moves(ko, 42, 42);
        ko.play(1, 9);
        moves(ko, 40, 42);
        ko.pass();
        moves(ko, 41, 42);

        GoBoard capture = Expect.drawn(".OX....", "OX.....", "X......");
        moves(capture, 44, 43);

        GoBoard whole = Expect.drawn(
                "XXXXXXX", "XXXXXXX", "XXXXXXX", "XXXXXXX", "XXXXXXX", "XXXXXXX", "XXXXXXX");
        moves(whole, 0, 0);
        whole.set(2, 48);
        moves(whole, 0, 1);

        fullDoesNotMatter();
        EXPECT.refused("moves(0) changes nothing", capture, b -> b.moves(0), 44);
        for (int p : Expect.NOT_A_PLAYER) {
            EXPECT.due("moves(" + p + ")", capture.moves(p), GoBoard.BAD_ARG);
        }
        EXPECT.end();
    }

    private static void moves(GoBoard board, int of0, int of1) {
        EXPECT.due("moves(0)", board.moves(0), of0);
        EXPECT.due("moves(1)", board.moves(1), of1);
    }

    private static void fullDoesNotMatter() {
        GoBoard board = Expect.drawn(".OX....", "OX.X...", ".OX....");
        Expect.passes(board, 39);
        board.play(1, 9);
        EXPECT.due("play(0, 48)", board.play(0, 48), GoBoard.FULL);
        moves(board, 40, 42);
    }
}
