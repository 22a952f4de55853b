/** groupSize and liberties, which are refused alike. */
public final class Promise08And09GroupTest {
    private static final Expect EXPECT = new Expect();

    public static void main(String[] args) {
        sizesAndLiberties();
        longestWay();
        everyTwoPoints();
        wrongInputs();
        EXPECT.end();
    }

    private static void group(GoBoard board, int q, int size, int liberties) {
        EXPECT.due("groupSize(" + q + ")", board.groupSize(q), size);
        EXPECT.due("liberties(" + q + ")", board.liberties(q), liberties);
    }

    private static void sizesAndLiberties() {
        GoBoard alone = Expect.drawn(
                "X.....O", ".......", "X......", "...O...", "......X", ".......", "O.....X");
        group(alone, 0, 1, 2);
        group(alone, 6, 1, 2);
        group(alone, 42, 1, 2);
        group(alone, 48, 1, 2);
        group(alone, 14, 1, 3);
        group(alone, 34, 1, 3);
        group(alone, 24, 1, 4);

        GoBoard bent = Expect.drawn(".......", ".X.....", ".XX.O..", "...XO..", "......X", "X......");
        group(bent, 8, 3, 7);
        group(bent, 16, 3, 7);
        group(bent, 24, 1, 3);
        group(bent, 18, 2, 5);
        group(bent, 34, 1, 3);
        group(bent, 35, 1, 3);

        GoBoard dead = Expect.drawn("XXO....", "OO.....");
        group(dead, 0, 2, 0);
        group(dead, 1, 2, 0);

        GoBoard shared = Expect.drawn(".......", ".XXX...", ".X.X...", ".XXX...");
        group(shared, 8, 8, 13);
    }

    private static void longestWay() {
        GoBoard snake = Expect.drawn(
                "XXXXXXX", "OOOOOOX", "XXXXXXX", "XOOOOOO", "XXXXXXX", "OOOOOOX", ".XXXXXX");
        group(snake, 0, 30, 1);
        group(snake, 43, 30, 1);
        group(snake, 7, 6, 0);
        group(snake, 35, 6, 1);
    }

    private static void everyTwoPoints() {
        for (int q = 0; q < 49; q++) {
            int near = 0;
            for (int r = 0; r < 49; r++) {
                boolean neighbours = Math.abs(q % 7 - r % 7) + Math.abs(q / 7 - r / 7) == 1;
                near += neighbours ? 1 : 0;
                GoBoard two = new GoBoard();
                two.set(1, q);
                two.set(1, r);
                EXPECT.due("groupSize of " + q + " with " + r, two.groupSize(q), neighbours ? 2 : 1);
            }
            GoBoard one = new GoBoard();
            one.set(0, q);
            group(one, q, 1, near);
        }
    }

    private static void wrongInputs() {
        GoBoard board = Expect.drawn("XO.....");
        for (int q : Expect.NOT_A_POINT) {
            EXPECT.due("groupSize(" + q + ")", board.groupSize(q), GoBoard.BAD_ARG);
            EXPECT.due("liberties(" + q + ")", board.liberties(q), GoBoard.BAD_ARG);
        }
        group(board, 2, GoBoard.TAKEN, GoBoard.TAKEN);
        group(board, 48, GoBoard.TAKEN, GoBoard.TAKEN);
        board.play(1, 7);
        group(board, 0, GoBoard.TAKEN, GoBoard.TAKEN);
    }
}
