public final class Promise15RegionTest {
    public static void main(String[] args) {
        Expect expect = new Expect();
        GoBoard board = Expect.drawn(".X...O.", "XX...OO", "OOOOOOO", "......X", "XXXXXX.", ".......", "O......");
        region(expect, board, 0, 1);
        region(expect, board, 2, 6);
        region(expect, board, 11, 6);
        region(expect, board, 6, 1);
        region(expect, board, 21, 6);
        region(expect, board, 26, 6);
        region(expect, board, 34, 14);
        region(expect, board, 48, 14);
        region(expect, board, 1, GoBoard.TAKEN);
        region(expect, board, 5, GoBoard.TAKEN);
        for (int q : Expect.NOT_A_POINT) {
            region(expect, board, q, GoBoard.BAD_ARG);
        }

        GoBoard snake = Expect.drawn(
                ".......", "XXXXXX.", ".......", ".OOOOOO", ".......", "XXXXXX.", ".......");
        region(expect, snake, 0, 31);
        region(expect, snake, 42, 31);

        GoBoard played = Expect.drawn("XO.....");
        region(expect, played, 2, 47);
        played.play(1, 7);
        region(expect, played, 0, 1);
        region(expect, played, 2, 46);
        expect.end();
    }

    private static void region(Expect expect, GoBoard board, int q, int due) {
        expect.due("region(" + q + ")", board.region(q), due);
    }
}
