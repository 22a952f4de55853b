import java.util.function.ToIntFunction;

/** What the tests share: boards drawn as text, and a count of the answers that are not as due. */
final class Expect {
    // Besides the edges of a range, numbers that fall inside it once int or shift distances wrap.
    static final int[] NOT_A_PLAYER = {
        Integer.MIN_VALUE, Integer.MIN_VALUE + 1, -65536, -256, -64, -32, -2, -1,
        2, 3, 32, 33, 64, 65, 256, 257, 65536, 65537, Integer.MAX_VALUE - 1, Integer.MAX_VALUE,
    };
    static final int[] NOT_A_POINT = {
        Integer.MIN_VALUE, Integer.MIN_VALUE + 1, Integer.MIN_VALUE + 48, -65536, -256, -64, -49, -48,
        -16, -7, -2, -1, 49, 50, 55, 56, 63, 64, 65, 112, 113, 128, 256, 304, 65536,
        Integer.MAX_VALUE - 1, Integer.MAX_VALUE,
    };

    private static final int POINTS = 49;

    private String sentence = "";
    private int wrong;

    /** A board set up row by row from y = 0: X for player 0, O for player 1, a dot for none. */
    static GoBoard drawn(String... rows) {
        GoBoard board = new GoBoard();
        for (int q = 0; q < POINTS; q++) {
            int holder = holderDrawn(rows, q);
            if (holder != 2) {
                board.set(holder, q);
            }
        }
        return board;
    }

    /** Rows that are not drawn are empty. */
    private static int holderDrawn(String[] rows, int q) {
        char mark = q / 7 < rows.length ? rows[q / 7].charAt(q % 7) : '.';
        return mark == 'X' ? 0 : mark == 'O' ? 1 : 2;
    }

    static void passes(GoBoard board, int times) {
        for (int i = 0; i < times; i++) {
            board.pass();
        }
    }

    /** Names what the document says and the checks that follow are held against. */
    void says(String documentsWords) {
        sentence = documentsWords;
    }

    void due(String call, int got, int want) {
        if (got != want) {
            wrong++;
            System.out.println("[" + sentence + "] " + call + " answered " + got + ", due is " + want);
        }
    }

    void looksLike(String when, GoBoard board, String... rows) {
        for (int q = 0; q < POINTS; q++) {
            due(when + ": at(" + q + ")", board.at(q), holderDrawn(rows, q));
        }
    }

    /** The call must answer the code and leave the board, the prisoners and the count alone. */
    void refused(String call, GoBoard board, ToIntFunction<GoBoard> made, int code) {
        due(call + " is a refusal's code", code < 0 ? 1 : 0, 1);
        changesNothing(call, board, made, code);
    }

    void changesNothing(String call, GoBoard board, ToIntFunction<GoBoard> made, int answer) {
        int[] before = state(board);
        due(call, made.applyAsInt(board), answer);
        int[] after = state(board);
        for (int i = 0; i < before.length; i++) {
            due(call + " changes nothing: " + stateName(i), after[i], before[i]);
        }
    }

    static int[] state(GoBoard board) {
        int[] state = new int[POINTS + 3];
        for (int q = 0; q < POINTS; q++) {
            state[q] = board.at(q);
        }
        state[POINTS] = board.captured(0);
        state[POINTS + 1] = board.captured(1);
        state[POINTS + 2] = board.done();
        return state;
    }

    static String stateName(int i) {
        return i < POINTS ? "at(" + i + ")" : i < POINTS + 2 ? "captured(" + (i - POINTS) + ")" : "done()";
    }

    void end() {
        System.out.println(wrong == 0 ? "all answers are as due" : wrong + " answers are not as due");
        if (wrong != 0) {
            System.exit(1);
        }
    }
}
