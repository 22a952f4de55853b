public final class Promise06AtTest {
    public static void main(String[] args) {
        Expect expect = new Expect();
        GoBoard board = new GoBoard();
        for (int q = 0; q < 49; q++) {
            board.set(q % 3, q);
        }
        for (int q = 0; q < 49; q++) {
            expect.due("at(" + q + ")", board.at(q), q % 3);
        }
        for (int q : Expect.NOT_A_POINT) {
            expect.due("at(" + q + ")", board.at(q), GoBoard.BAD_ARG);
        }
        GoBoard played = Expect.drawn("XO.....");
        played.play(1, 7);
        expect.due("at(7), a stone played", played.at(7), 1);
        expect.due("at(0), a stone captured", played.at(0), 2);
        expect.end();
    }
}
