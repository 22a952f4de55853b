/**
 * A board of 7 by 7 points on which two players put stones.
 *
 * A set of points is a long in which bit q stands for point q, so that groups, liberties and
 * regions all come from two steps: the neighbours of a set, and a set grown inside another one.
 */
public final class GoBoard {
    public static final int BAD_ARG = -1;
    public static final int TAKEN = -2;
    public static final int FULL = -3;
    public static final int SUICIDE = -5;
    public static final int KO = -6;

    private static final int SIDE = 7;
    private static final int POINTS = 49;
    private static final int NOBODY = 2;
    private static final int MOST_DONE = 40;
    private static final int HISTORY = 2 * (MOST_DONE + 1);
    private static final long BOARD = (1L << POINTS) - 1L;
    private static final long FIRST_COLUMN =
            1L | 1L << 7 | 1L << 14 | 1L << 21 | 1L << 28 | 1L << 35 | 1L << 42;
    private static final long LAST_COLUMN = FIRST_COLUMN << (SIDE - 1);

    // Row n of a history is how things stood after n moves and passes; place 2 n + p is player
    // p's. The row doneCount is the present one, so that to undo is to step one row back.
    private final long[] stones = new long[HISTORY];
    private final int[] prisoners = new int[HISTORY];
    private int doneCount;

    public GoBoard() {
        doneCount = 0;
    }

    public int play(int p, int q) {
        if (!isPlayer(p) || !isPoint(q)) {
            return BAD_ARG;
        }
        if (hasStone(q)) {
            return TAKEN;
        }
        if (doneCount >= MOST_DONE) {
            return FULL;
        }
        int answer = answerOfMove(p, q);
        if (answer >= 0) {
            long own = stonesOf(p) | pointSet(q);
            long other = stonesOf(1 - p);
            long left = withLiberties(other, own);
            startNextRow();
            stones[2 * doneCount + p] = own;
            stones[2 * doneCount + 1 - p] = left;
            prisoners[2 * doneCount + p] += answer;
        }
        return answer;
    }

    public int pass() {
        if (doneCount >= MOST_DONE) {
            return FULL;
        }
        startNextRow();
        return doneCount;
    }

    public int undo() {
        if (doneCount == 0) {
            return TAKEN;
        }
        doneCount--;
        return doneCount;
    }

    public int set(int p, int q) {
        if (!isPlayer(p) && p != NOBODY || !isPoint(q)) {
            return BAD_ARG;
        }
        if (hasStone(q) != (p == NOBODY)) {
            return TAKEN;
        }
        forgetWhatWasDone();
        long point = pointSet(q);
        if (p == NOBODY) {
            stones[0] &= ~point;
            stones[1] &= ~point;
        } else {
            stones[p] |= point;
        }
        return 0;
    }

    public int at(int q) {
        if (!isPoint(q)) {
            return BAD_ARG;
        }
        return holderOf(q);
    }

    public int captured(int p) {
        if (!isPlayer(p)) {
            return BAD_ARG;
        }
        return prisoners[2 * doneCount + p];
    }

    public int groupSize(int q) {
        if (!isPoint(q)) {
            return BAD_ARG;
        }
        if (!hasStone(q)) {
            return TAKEN;
        }
        long group = groupAt(q);
        return count(group);
    }

    public int liberties(int q) {
        if (!isPoint(q)) {
            return BAD_ARG;
        }
        if (!hasStone(q)) {
            return TAKEN;
        }
        long group = groupAt(q);
        return libertyCount(group);
    }

    public int trial(int p, int q) {
        if (!isPlayer(p) || !isPoint(q)) {
            return BAD_ARG;
        }
        if (hasStone(q)) {
            return TAKEN;
        }
        return answerOfMove(p, q);
    }

    public int moves(int p) {
        if (!isPlayer(p)) {
            return BAD_ARG;
        }
        int found = 0;
        for (int q = 0; q < POINTS; q++) {
            if (!hasStone(q) && answerOfMove(p, q) >= 0) {
                found++;
            }
        }
        return found;
    }

    public int groups(int p) {
        if (!isPlayer(p)) {
            return BAD_ARG;
        }
        long uncounted = stonesOf(p);
        int found = 0;
        for (int q = 0; q < POINTS; q++) {
            if (contains(uncounted, q)) {
                uncounted &= ~groupAt(q);
                found++;
            }
        }
        return found;
    }

    public int inAtari(int p) {
        if (!isPlayer(p)) {
            return BAD_ARG;
        }
        long own = stonesOf(p);
        int found = 0;
        for (int q = 0; q < POINTS; q++) {
            if (contains(own, q)) {
                long group = groupAt(q);
                if (libertyCount(group) == 1) {
                    found++;
                }
            }
        }
        return found;
    }

    public int score(int p) {
        if (!isPlayer(p)) {
            return BAD_ARG;
        }
        long own = stonesOf(p);
        long other = stonesOf(1 - p);
        long belonging = regionsBeside(own) & ~regionsBeside(other);
        return count(own | belonging);
    }

    public int region(int q) {
        if (!isPoint(q)) {
            return BAD_ARG;
        }
        if (hasStone(q)) {
            return TAKEN;
        }
        long start = pointSet(q);
        long empty = emptyPoints();
        long found = grown(start, empty);
        return count(found);
    }

    public int done() {
        return doneCount;
    }

    private static boolean isPlayer(int p) {
        return p == 0 || p == 1;
    }

    private static boolean isPoint(int q) {
        return q >= 0 && q < POINTS;
    }

    private static long pointSet(int q) {
        return 1L << q;
    }

    private static boolean contains(long set, int q) {
        return (set >>> q & 1L) != 0L;
    }

    private static int count(long set) {
        int found = 0;
        for (int q = 0; q < POINTS; q++) {
            if (contains(set, q)) {
                found++;
            }
        }
        return found;
    }

    private static long neighbours(long set) {
        // The outer columns are left out of the sideways steps, which would else come out at the
        // other end of the row above or below.
        long sideways = (set & ~LAST_COLUMN) << 1 | (set & ~FIRST_COLUMN) >>> 1;
        return (sideways | set << SIDE | set >>> SIDE) & BOARD;
    }

    /** All points of within that can be reached inside it from start, which lies inside it. */
    private static long grown(long start, long within) {
        long found = start;
        // A way that meets no point twice has fewer steps than the board has points.
        for (int step = 0; step < POINTS; step++) {
            found |= neighbours(found) & within;
        }
        return found;
    }

    /** The stones of the groups in the set mine that have a liberty. */
    private static long withLiberties(long mine, long theirs) {
        long empty = BOARD & ~(mine | theirs);
        long besideEmpty = neighbours(empty) & mine;
        return grown(besideEmpty, mine);
    }

    private long stonesOf(int p) {
        return stones[2 * doneCount + p];
    }

    private long emptyPoints() {
        return BOARD & ~(stonesOf(0) | stonesOf(1));
    }

    private int holderOf(int q) {
        long first = stonesOf(0);
        long second = stonesOf(1);
        if (contains(first, q)) {
            return 0;
        }
        return contains(second, q) ? 1 : NOBODY;
    }

    private boolean hasStone(int q) {
        return holderOf(q) != NOBODY;
    }

    /** The group at q, where there must be a stone. */
    private long groupAt(int q) {
        long start = pointSet(q);
        long same = holderOf(q) == 0 ? stonesOf(0) : stonesOf(1);
        return grown(start, same);
    }

    private int libertyCount(long group) {
        long free = neighbours(group) & emptyPoints();
        return count(free);
    }

    /** The points of all regions that have a neighbour in the set given. */
    private long regionsBeside(long set) {
        long empty = emptyPoints();
        long start = neighbours(set) & empty;
        return grown(start, empty);
    }

    /** What a move at the empty point q answers, if it were not for FULL. */
    private int answerOfMove(int p, int q) {
        long own = stonesOf(p) | pointSet(q);
        long other = stonesOf(1 - p);
        // Every group without liberties goes, not only those beside q: set may have left some.
        long left = withLiberties(other, own);
        long alive = withLiberties(own, left);
        if (!contains(alive, q)) {
            return SUICIDE;
        }
        if (isBoardBeforeLast(p, own, left)) {
            return KO;
        }
        return count(other & ~left);
    }

    private boolean isBoardBeforeLast(int p, long own, long other) {
        if (doneCount == 0) {
            return false;
        }
        int row = 2 * (doneCount - 1);
        return stones[row + p] == own && stones[row + 1 - p] == other;
    }

    /** Makes a copy of the present row the present one; there must be room for it. */
    private void startNextRow() {
        int from = 2 * doneCount;
        stones[from + 2] = stones[from];
        stones[from + 3] = stones[from + 1];
        prisoners[from + 2] = prisoners[from];
        prisoners[from + 3] = prisoners[from + 1];
        doneCount++;
    }

    private void forgetWhatWasDone() {
        // Row 0 has no prisoners and never gets any: no move leads to it.
        stones[0] = stones[2 * doneCount];
        stones[1] = stones[2 * doneCount + 1];
        doneCount = 0;
    }
}
