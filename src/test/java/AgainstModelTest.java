/** Long runs of mixed calls, the same ones every time, each answer held against ModelBoard's. */
public final class AgainstModelTest {
    private static final int RUNS = 400;
    private static final int CALLS = 512;
    private static final String[] QUESTIONS = {
        "at", "captured", "groupSize", "liberties", "trial", "moves", "groups", "inAtari", "score",
        "region", "done",
    };

    private final Expect expect = new Expect();
    private long seed = 20260101L;
    private boolean mayTakeBack;
    private int lastPlayer;
    private int captures;
    private int kos;
    private int suicides;
    private int fulls;

    public static void main(String[] args) {
        AgainstModelTest test = new AgainstModelTest();
        test.expect.says("What it is: an object is used for at most 512 calls");
        for (int run = 0; run < RUNS; run++) {
            test.run(run);
        }
        // Runs that never come to these would say little.
        System.out.println(test.captures + " captures, " + test.kos + " kos, " + test.suicides
                + " suicides, " + test.fulls + " moves on full objects");
        test.expect.due("captures were met", test.captures > 1000 ? 1 : 0, 1);
        test.expect.due("kos were met", test.kos > 100 ? 1 : 0, 1);
        test.expect.due("suicides were met", test.suicides > 1000 ? 1 : 0, 1);
        test.expect.due("full objects were met", test.fulls > 100 ? 1 : 0, 1);
        test.expect.end();
    }

    private int below(int bound) {
        seed = seed * 6364136223846793005L + 1442695040888963407L;
        return (int) ((seed >>> 33) % bound);
    }

    private void run(int run) {
        GoBoard board = new GoBoard();
        ModelBoard model = new ModelBoard();
        // The shares of set and undo among a hundred calls tell how far a game gets; moves that
        // crowd in a corner meet more captures.
        int sets = run % 3 == 0 ? 0 : run % 3 == 1 ? 2 : 12;
        int undos = run % 4 == 0 ? 2 : 9;
        int width = run % 2 == 0 ? 7 : 3;
        int filled = run % 5 * 8;
        for (int call = 0; call < CALLS; call++) {
            int kind = below(100);
            int p = player();
            int q = point(width);
            if (call < filled) {
                step(run, board, model, Call.set(p, point(7)));
            } else if (mayTakeBack && below(2) == 0) {
                step(run, board, model, Call.play(1 - lastPlayer, koPoint(model, q)));
            } else if (kind < sets) {
                step(run, board, model, Call.set(below(2) == 0 ? 2 : p, q));
            } else if (kind < sets + undos) {
                step(run, board, model, Call.undo());
            } else if (kind < 55) {
                step(run, board, model, Call.play(p, mostlyOpen(model, q, width)));
            } else if (below(30) == 0) {
                step(run, board, model, Call.pass());
            } else {
                step(run, board, model, new Call(QUESTIONS[below(QUESTIONS.length)], p, q));
            }
        }
    }

    private int player() {
        return below(40) == 0 ? one(Expect.NOT_A_PLAYER) : below(2);
    }

    private int point(int width) {
        return below(60) == 0 ? one(Expect.NOT_A_POINT) : 7 * below(width) + below(width);
    }

    private int one(int[] numbers) {
        return numbers[below(numbers.length)];
    }

    private int mostlyOpen(ModelBoard model, int first, int width) {
        int q = first;
        for (int tries = 0; tries < 4 && model.trial(0, q) == GoBoard.TAKEN; tries++) {
            q = point(width);
        }
        return q;
    }

    /** Where the other player would meet a ko, if there is such a point. */
    private int koPoint(ModelBoard model, int otherwise) {
        for (int q = 0; q < 49; q++) {
            if (model.trial(1 - lastPlayer, q) == GoBoard.KO) {
                return q;
            }
        }
        return otherwise;
    }

    private void step(int run, GoBoard board, ModelBoard model, Call call) {
        int want = call.on(model);
        expect.due("run " + run + ", " + call, call.on(board), want);
        if (call.method().equals("play")) {
            note(want, call.p());
        }
    }

    private void note(int answer, int p) {
        // Only where one stone goes can the other player come to a ko.
        mayTakeBack = answer == 1;
        lastPlayer = p;
        captures += answer > 0 ? 1 : 0;
        fulls += answer == GoBoard.FULL ? 1 : 0;
        suicides += answer == GoBoard.SUICIDE ? 1 : 0;
        kos += answer == GoBoard.KO ? 1 : 0;
    }
}
