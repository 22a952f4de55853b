import java.util.ArrayList;
import java.util.List;

/** One call with its arguments, to be made on a GoBoard and on a ModelBoard alike. */
record Call(String method, int p, int q) {
    static Call play(int p, int q) {
        return new Call("play", p, q);
    }

    static Call pass() {
        return new Call("pass", 0, 0);
    }

    static Call undo() {
        return new Call("undo", 0, 0);
    }

    static Call set(int p, int q) {
        return new Call("set", p, q);
    }

    /** Whether the method only asks, so that no call of it may ever change anything. */
    boolean asks() {
        return !List.of("play", "pass", "undo", "set").contains(method);
    }

    int on(GoBoard board) {
        return switch (method) {
            case "play" -> board.play(p, q);
            case "pass" -> board.pass();
            case "undo" -> board.undo();
            case "set" -> board.set(p, q);
            case "at" -> board.at(q);
            case "captured" -> board.captured(p);
            case "groupSize" -> board.groupSize(q);
            case "liberties" -> board.liberties(q);
            case "trial" -> board.trial(p, q);
            case "moves" -> board.moves(p);
            case "groups" -> board.groups(p);
            case "inAtari" -> board.inAtari(p);
            case "score" -> board.score(p);
            case "region" -> board.region(q);
            case "done" -> board.done();
            default -> throw new IllegalStateException(method);
        };
    }

    int on(ModelBoard model) {
        return switch (method) {
            case "play" -> model.play(p, q);
            case "pass" -> model.pass();
            case "undo" -> model.undo();
            case "set" -> model.set(p, q);
            case "at" -> model.at(q);
            case "captured" -> model.captured(p);
            case "groupSize" -> model.groupSize(q);
            case "liberties" -> model.liberties(q);
            case "trial" -> model.trial(p, q);
            case "moves" -> model.moves(p);
            case "groups" -> model.groups(p);
            case "inAtari" -> model.inAtari(p);
            case "score" -> model.score(p);
            case "region" -> model.region(q);
            case "done" -> model.done();
            default -> throw new IllegalStateException(method);
        };
    }

    @Override
    public String toString() {
        return switch (method) {
            case "play", "set", "trial" -> method + "(" + p + ", " + q + ")";
            case "at", "groupSize", "liberties", "region" -> method + "(" + q + ")";
            case "pass", "undo", "done" -> method + "()";
            default -> method + "(" + p + ")";
        };
    }

    /** Every method with arguments just inside, just outside and far outside their ranges. */
    static List<Call> atEdges() {
        List<Call> calls = new ArrayList<>();
        for (String method : List.of("pass", "undo", "done")) {
            calls.add(new Call(method, 0, 0));
        }
        for (String method : List.of("captured", "moves", "groups", "inAtari", "score")) {
            for (int p : players()) {
                calls.add(new Call(method, p, 0));
            }
        }
        for (String method : List.of("at", "groupSize", "liberties", "region")) {
            for (int q : points()) {
                calls.add(new Call(method, 0, q));
            }
        }
        for (String method : List.of("play", "set", "trial")) {
            for (int p = 0; p <= 2; p++) {
                for (int q : points()) {
                    calls.add(new Call(method, p, q));
                }
            }
            for (int p : Expect.NOT_A_PLAYER) {
                for (int q : new int[] {Integer.MIN_VALUE, -1, 0, 24, 48, 49, Integer.MAX_VALUE}) {
                    calls.add(new Call(method, p, q));
                }
            }
        }
        return calls;
    }

    private static int[] players() {
        return joined(new int[] {0, 1}, Expect.NOT_A_PLAYER);
    }

    private static int[] points() {
        int[] points = new int[49];
        for (int q = 0; q < 49; q++) {
            points[q] = q;
        }
        return joined(points, Expect.NOT_A_POINT);
    }

    private static int[] joined(int[] first, int[] second) {
        int[] both = new int[first.length + second.length];
        System.arraycopy(first, 0, both, 0, first.length);
        System.arraycopy(second, 0, both, first.length, second.length);
        return both;
    }
}
