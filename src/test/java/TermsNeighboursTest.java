/**
 * "Points are NEIGHBOURS if they differ by one in x or in y (not both)": for every pair of points,
 * as groups, regions, liberties, captures and suicide see it. The end of a row is no neighbour of
 * the start of the next one, nor the last row of the first.
 */
public final class TermsNeighboursTest {
    private static final Expect EXPECT = new Expect();

    public static void main(String[] args) {
        for (int q = 0; q < 49; q++) {
            for (int r = 0; r < 49; r++) {
                if (q != r) {
                    twoStones(q, r);
                    twoEmptyPoints(q, r);
                }
            }
            liberties(q);
            surrounded(q);
            almostSurrounded(q);
        }
        EXPECT.end();
    }

    private static boolean areNeighbours(int q, int r) {
        return Math.abs(q % 7 - r % 7) + Math.abs(q / 7 - r / 7) == 1;
    }

    private static void twoStones(int q, int r) {
        EXPECT.says("Terms: a GROUP goes over neighbouring stones, here " + q + " and " + r);
        int joined = areNeighbours(q, r) ? 2 : 1;
        GoBoard same = new GoBoard();
        same.set(1, q);
        same.set(1, r);
        EXPECT.due("groupSize(" + q + ")", same.groupSize(q), joined);
        EXPECT.due("groups(1)", same.groups(1), 3 - joined);
        GoBoard different = new GoBoard();
        different.set(1, q);
        different.set(0, r);
        EXPECT.due("groupSize(" + q + ") beside the other player's", different.groupSize(q), 1);
    }

    private static void twoEmptyPoints(int q, int r) {
        EXPECT.says("Terms: a REGION goes over neighbouring empty points, here " + q + " and " + r);
        GoBoard board = new GoBoard();
        for (int s = 0; s < 49; s++) {
            if (s != q && s != r) {
                board.set(0, s);
            }
        }
        EXPECT.due("region(" + q + ")", board.region(q), areNeighbours(q, r) ? 2 : 1);
    }

    private static void liberties(int q) {
        EXPECT.says("Terms: LIBERTIES are the empty points that are neighbours of " + q);
        GoBoard board = new GoBoard();
        board.set(0, q);
        int free = count(q);
        EXPECT.due("liberties(" + q + ")", board.liberties(q), free);
        for (int r = 0; r < 49; r++) {
            if (r != q) {
                board.set(1, r);
                free -= areNeighbours(q, r) ? 1 : 0;
                EXPECT.due("liberties(" + q + ") with a stone at " + r, board.liberties(q), free);
            }
        }
        EXPECT.due("no liberty is left", free, 0);
    }

    private static int count(int q) {
        int found = 0;
        for (int r = 0; r < 49; r++) {
            found += areNeighbours(q, r) ? 1 : 0;
        }
        return found;
    }

    private static void surrounded(int q) {
        EXPECT.says("Terms: SUICIDE if all neighbours of the new stone at " + q + " are the other's");
        GoBoard board = new GoBoard();
        setAround(board, q, -1);
        EXPECT.refused("play(0, " + q + ")", board, b -> b.play(0, q), GoBoard.SUICIDE);
        EXPECT.due("play(1, " + q + ")", board.play(1, q), 0);
    }

    private static void almostSurrounded(int q) {
        for (int r = 0; r < 49; r++) {
            if (areNeighbours(q, r)) {
                EXPECT.says("Terms: the stone at " + q + " has its one liberty at " + r);
                GoBoard open = new GoBoard();
                setAround(open, q, r);
                EXPECT.due("play(0, " + q + ")", open.play(0, q), 0);
                EXPECT.due("liberties(" + q + ")", open.liberties(q), 1);
                EXPECT.due("inAtari(0)", open.inAtari(0), 1);
                EXPECT.due("play(1, " + r + ")", open.play(1, r), 1);
                EXPECT.due("at(" + q + ")", open.at(q), 2);

                EXPECT.says("Terms: the group of " + q + " and " + r + " has liberties");
                GoBoard friend = new GoBoard();
                setAround(friend, q, r);
                friend.set(0, r);
                EXPECT.due("play(0, " + q + ")", friend.play(0, q), 0);
                EXPECT.due("groupSize(" + q + ")", friend.groupSize(q), 2);
                EXPECT.due("liberties(" + q + ")", friend.liberties(q), count(r) - 1);
            }
        }
    }

    /** Stones of player 1 at all neighbours of q but the one left out. */
    private static void setAround(GoBoard board, int q, int leftOut) {
        for (int r = 0; r < 49; r++) {
            if (areNeighbours(q, r) && r != leftOut) {
                board.set(1, r);
            }
        }
    }
}
