/**
 * "No call ever throws": every method with arguments at, inside and outside the edges of their
 * ranges, in every Position. The answer, and how things then stand, are held against ModelBoard.
 */
public final class EveryCallTest {
    private static final Expect EXPECT = new Expect();

    public static void main(String[] args) {
        for (Position position : Position.all()) {
            positionIsMeant(position);
            for (Call call : Call.atEdges()) {
                EXPECT.says(position.name() + ", then " + call);
                GoBoard board = position.board();
                ModelBoard model = position.model();
                EXPECT.due("it", call.on(board), call.on(model));
                sameState("after it", board, model);
                if (!call.asks()) {
                    afterUndo(position, call);
                }
            }
        }
        EXPECT.end();
    }

    /** A position whose own calls are refused would not be the one its name tells. */
    private static void positionIsMeant(Position position) {
        EXPECT.says(position.name());
        GoBoard board = new GoBoard();
        ModelBoard model = new ModelBoard();
        for (Call call : position.calls()) {
            int want = call.on(model);
            EXPECT.due(call + " is not refused", want >= 0 ? 1 : 0, 1);
            EXPECT.due(call.toString(), call.on(board), want);
        }
    }

    private static void afterUndo(Position position, Call call) {
        GoBoard board = position.board();
        ModelBoard model = position.model();
        call.on(board);
        call.on(model);
        EXPECT.due("undo()", board.undo(), model.undo());
        sameState("after one undo", board, model);
        while (model.done() > 0) {
            EXPECT.due("undo()", board.undo(), model.undo());
        }
        sameState("all taken back", board, model);
        EXPECT.due("one undo too many", board.undo(), GoBoard.TAKEN);
    }

    private static void sameState(String when, GoBoard board, ModelBoard model) {
        for (int q = 0; q < 49; q++) {
            EXPECT.due(when + ", at(" + q + ")", board.at(q), model.at(q));
        }
        EXPECT.due(when + ", captured(0)", board.captured(0), model.captured(0));
        EXPECT.due(when + ", captured(1)", board.captured(1), model.captured(1));
        EXPECT.due(when + ", done()", board.done(), model.done());
    }
}
