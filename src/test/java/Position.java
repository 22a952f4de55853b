import java.util.ArrayList;
import java.util.List;

/** A state at one of the edges the document names, as the calls that lead to it from a new object. */
record Position(String name, List<Call> calls) {
    private static final String[] KO_SHAPE = {".OX....", "OX.X...", ".OX...."};

    static List<Position> all() {
        return List.of(
                new Position("a new object", List.of()),
                of("one stone", "......X"),
                of("stones of both", "XO...OX", ".......", "..XO...", "...X...", ".......", "O.....X"),
                of("49 stones of one player", rows("XXXXXXX")),
                of("49 stones of the other player", rows("OOOOOOO")),
                of("49 stones of both", chequered()),
                of("one empty point among 48 stones", oneEmpty()),
                of("groups without liberties", "XO...OX", "O..X..O", "..XOX..", "...X...",
                        ".......", "X.....X", "OX...XO"),
                of("no liberty in all corners", ".O...X.", "O.....X", ".......", ".......",
                        ".......", "X.....O", ".X...O."),
                of("a ko that nobody took", KO_SHAPE),
                of("a ko just taken", KO_SHAPE).and(Call.play(1, 9)),
                of("a ko taken and a pass", KO_SHAPE).and(Call.play(1, 9)).and(Call.pass()),
                of("a ko taken, a pass taken back", KO_SHAPE).and(Call.play(1, 9)).and(Call.pass())
                        .and(Call.undo()),
                of("captures of both", "XO...OO", ".....XX").and(Call.play(1, 7)).and(Call.play(0, 4)),
                of("captures taken back", "XO...OO", ".....XX").and(Call.play(1, 7)).and(Call.play(0, 4))
                        .and(Call.undo()).and(Call.undo()),
                of("captures, then a set", "XO...OO", ".....XX").and(Call.play(1, 7))
                        .and(Call.play(0, 4)).and(Call.set(0, 24)),
                of("a great capture", oneEmpty()).and(Call.play(1, 24)),
                of("39 passes", "XO.....").passes(39),
                of("40 passes", "XO.....").passes(40),
                of("40 passes on 49 stones", rows("XXXXXXX")).passes(40),
                of("40 passes and a set", "XO.....").passes(40).and(Call.set(2, 1)),
                of("39 passes and a ko taken", KO_SHAPE).passes(39).and(Call.play(1, 9)),
                of("39 passes, a ko taken and taken back", KO_SHAPE).passes(39).and(Call.play(1, 9))
                        .and(Call.undo()),
                fortyMoves("40 moves"),
                fortyMoves("40 moves, one taken back").and(Call.undo()));
    }

    private static Position of(String name, String... rows) {
        List<Call> calls = new ArrayList<>();
        for (int q = 0; q < 7 * rows.length; q++) {
            char mark = rows[q / 7].charAt(q % 7);
            if (mark != '.') {
                calls.add(Call.set(mark == 'X' ? 0 : 1, q));
            }
        }
        return new Position(name, calls);
    }

    private static String[] rows(String row) {
        return new String[] {row, row, row, row, row, row, row};
    }

    private static String[] chequered() {
        return new String[] {
            "XOXOXOX", "OXOXOXO", "XOXOXOX", "OXOXOXO", "XOXOXOX", "OXOXOXO", "XOXOXOX",
        };
    }

    private static String[] oneEmpty() {
        String[] rows = rows("XXXXXXX");
        rows[3] = "XXX.XXX";
        return rows;
    }

    private static Position fortyMoves(String name) {
        Position position = new Position(name, List.of());
        for (int i = 0; i < 40; i++) {
            // Both players in turn, and steps of 11 so that the stones lie scattered.
            position = position.and(Call.play(i % 2, 11 * i % 49));
        }
        return position;
    }

    private Position and(Call call) {
        List<Call> longer = new ArrayList<>(calls);
        longer.add(call);
        return new Position(name, longer);
    }

    private Position passes(int times) {
        Position position = this;
        for (int i = 0; i < times; i++) {
            position = position.and(Call.pass());
        }
        return position;
    }

    GoBoard board() {
        GoBoard board = new GoBoard();
        for (Call call : calls) {
            call.on(board);
        }
        return board;
    }

    ModelBoard model() {
        ModelBoard model = new ModelBoard();
        for (Call call : calls) {
            call.on(model);
        }
        return model;
    }
}
