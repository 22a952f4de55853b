public final class Promise01NewObjectTest {
    public static void main(String[] args) {
        Expect expect = new Expect();
        GoBoard board = new GoBoard();
        expect.looksLike("a new object", board);
        expect.due("done()", board.done(), 0);
        expect.due("undo()", board.undo(), GoBoard.TAKEN);
        for (int p = 0; p <= 1; p++) {
            expect.due("captured(" + p + ")", board.captured(p), 0);
            expect.due("groups(" + p + ")", board.groups(p), 0);
            expect.due("inAtari(" + p + ")", board.inAtari(p), 0);
            expect.due("score(" + p + ")", board.score(p), 0);
            expect.due("moves(" + p + ")", board.moves(p), 49);
        }
        expect.due("region(24)", board.region(24), 49);
        objectsShareNothing(expect);
        expect.end();
    }

    private static void objectsShareNothing(Expect expect) {
        GoBoard first = Expect.drawn("XO.....");
        first.play(1, 7);
        GoBoard second = new GoBoard();
        expect.looksLike("a second object", second);
        expect.due("done() of a second object", second.done(), 0);
        expect.due("captured(1) of a second object", second.captured(1), 0);
        second.play(0, 48);
        expect.due("at(48) of the first object", first.at(48), 2);
        expect.due("done() of the first object", first.done(), 1);
    }
}
