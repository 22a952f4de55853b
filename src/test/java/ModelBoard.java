import java.util.ArrayList;
import java.util.Arrays;
import java.util.List;
import java.util.TreeSet;

/** The document once more, point by point and without bit sets, to hold GoBoard against. */
final class ModelBoard {
    private static final List<List<Integer>> NEIGHBOURS = allNeighbours();

    private int[] board = new int[49];
    private int[] prisoners = new int[2];
    private final List<int[]> pastBoards = new ArrayList<>();
    private final List<int[]> pastPrisoners = new ArrayList<>();

    ModelBoard() {
        Arrays.fill(board, 2);
    }

    private static List<List<Integer>> allNeighbours() {
        List<List<Integer>> all = new ArrayList<>();
        for (int q = 0; q < 49; q++) {
            all.add(neighboursOf(q));
        }
        return all;
    }

    private static List<Integer> neighboursOf(int q) {
        List<Integer> found = new ArrayList<>();
        for (int r = 0; r < 49; r++) {
            if (Math.abs(q % 7 - r % 7) + Math.abs(q / 7 - r / 7) == 1) {
                found.add(r);
            }
        }
        return found;
    }

    /** The group at q or, if q is empty, its region. */
    private static TreeSet<Integer> connected(int[] board, int q) {
        TreeSet<Integer> found = new TreeSet<>();
        List<Integer> open = new ArrayList<>(List.of(q));
        while (!open.isEmpty()) {
            int r = open.remove(open.size() - 1);
            if (found.add(r)) {
                for (int n : NEIGHBOURS.get(r)) {
                    if (board[n] == board[q]) {
                        open.add(n);
                    }
                }
            }
        }
        return found;
    }

    /** The points with the content given that are neighbours of the group or region at q. */
    private static TreeSet<Integer> beside(int[] board, int q, int content) {
        TreeSet<Integer> found = new TreeSet<>();
        for (int r : connected(board, q)) {
            for (int n : NEIGHBOURS.get(r)) {
                if (board[n] == content) {
                    found.add(n);
                }
            }
        }
        return found;
    }

    /** The board after a move, before it is asked whether the move is refused. */
    private int[] moved(int p, int q) {
        int[] stoneOn = board.clone();
        stoneOn[q] = p;
        int[] after = stoneOn.clone();
        for (int r = 0; r < 49; r++) {
            if (stoneOn[r] == 1 - p && beside(stoneOn, r, 2).isEmpty()) {
                after[r] = 2;
            }
        }
        return after;
    }

    private static int count(int[] board, int content) {
        return (int) Arrays.stream(board).filter(c -> c == content).count();
    }

    private static boolean badPlayer(int p) {
        return p < 0 || p > 1;
    }

    private static boolean badPoint(int q) {
        return q < 0 || q > 48;
    }

    private int attempt(int p, int q, boolean fullMatters) {
        if (badPlayer(p) || badPoint(q)) {
            return -1;
        }
        if (board[q] != 2) {
            return -2;
        }
        if (fullMatters && done() == 40) {
            return -3;
        }
        int[] after = moved(p, q);
        if (beside(after, q, 2).isEmpty()) {
            return -5;
        }
        if (done() > 0 && Arrays.equals(after, pastBoards.get(done() - 1))) {
            return -6;
        }
        return count(board, 1 - p) - count(after, 1 - p);
    }

    private void remember() {
        pastBoards.add(board.clone());
        pastPrisoners.add(prisoners.clone());
    }

    int play(int p, int q) {
        int answer = attempt(p, q, true);
        if (answer >= 0) {
            remember();
            board = moved(p, q);
            prisoners[p] += answer;
        }
        return answer;
    }

    int pass() {
        if (done() == 40) {
            return -3;
        }
        remember();
        return done();
    }

    int undo() {
        if (done() == 0) {
            return -2;
        }
        board = pastBoards.remove(done() - 1);
        prisoners = pastPrisoners.remove(pastPrisoners.size() - 1);
        return done();
    }

    int set(int p, int q) {
        if (p < 0 || p > 2 || badPoint(q)) {
            return -1;
        }
        if ((board[q] == 2) == (p == 2)) {
            return -2;
        }
        board[q] = p;
        prisoners = new int[2];
        pastBoards.clear();
        pastPrisoners.clear();
        return 0;
    }

    int at(int q) {
        return badPoint(q) ? -1 : board[q];
    }

    int captured(int p) {
        return badPlayer(p) ? -1 : prisoners[p];
    }

    int groupSize(int q) {
        return badPoint(q) ? -1 : board[q] == 2 ? -2 : connected(board, q).size();
    }

    int liberties(int q) {
        return badPoint(q) ? -1 : board[q] == 2 ? -2 : beside(board, q, 2).size();
    }

    int trial(int p, int q) {
        return attempt(p, q, false);
    }

    int moves(int p) {
        if (badPlayer(p)) {
            return -1;
        }
        int found = 0;
        for (int q = 0; q < 49; q++) {
            found += trial(p, q) >= 0 ? 1 : 0;
        }
        return found;
    }

    int groups(int p) {
        if (badPlayer(p)) {
            return -1;
        }
        int found = 0;
        for (int q = 0; q < 49; q++) {
            found += board[q] == p && connected(board, q).first() == q ? 1 : 0;
        }
        return found;
    }

    int inAtari(int p) {
        if (badPlayer(p)) {
            return -1;
        }
        int found = 0;
        for (int q = 0; q < 49; q++) {
            found += board[q] == p && beside(board, q, 2).size() == 1 ? 1 : 0;
        }
        return found;
    }

    int score(int p) {
        if (badPlayer(p)) {
            return -1;
        }
        int found = count(board, p);
        for (int q = 0; q < 49; q++) {
            boolean belongs = board[q] == 2
                    && !beside(board, q, p).isEmpty() && beside(board, q, 1 - p).isEmpty();
            found += belongs ? 1 : 0;
        }
        return found;
    }

    int region(int q) {
        return badPoint(q) ? -1 : board[q] != 2 ? -2 : connected(board, q).size();
    }

    int done() {
        return pastBoards.size();
    }
}
