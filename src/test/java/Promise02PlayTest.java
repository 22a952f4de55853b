public final class Promise02PlayTest {
    private static final Expect EXPECT = new Expect();

    public static void main(String[] args) {
        ordinaryMoves();
        captures();
        groupsWithoutLibertiesFarAway();
        rowsDoNotRunOn();
        wrongArguments();
        taken();
        full();
        suicide();
        ko();
        noKo();
        EXPECT.end();
    }

    private static void ordinaryMoves() {
        GoBoard board = new GoBoard();
        EXPECT.due("play(1, 0), player 1 first", board.play(1, 0), 0);
        EXPECT.due("play(1, 6), the same player again", board.play(1, 6), 0);
        EXPECT.due("play(0, 42)", board.play(0, 42), 0);
        EXPECT.due("play(0, 48)", board.play(0, 48), 0);
        EXPECT.looksLike("four corners", board,
                "O.....O", ".......", ".......", ".......", ".......", ".......", "X.....X");
        EXPECT.due("done() after four moves", board.done(), 4);
    }

    private static void captures() {
        GoBoard corner = Expect.drawn("XO.....");
        EXPECT.due("one stone in a corner", corner.play(1, 7), 1);
        EXPECT.looksLike("one stone in a corner", corner, ".O.....", "O......");

        GoBoard edge = Expect.drawn("OXX.O..", ".OO....");
        edge.play(1, 3);
        EXPECT.looksLike("two stones on an edge", edge, "O..OO..", ".OO....");
        EXPECT.due("captured(1)", edge.captured(1), 2);

        GoBoard centre = Expect.drawn(".......", "..O....", ".OXO...", "..XO...", "..O....");
        EXPECT.due("two stones in the centre", centre.play(1, 22), 2);
        EXPECT.looksLike("two stones in the centre", centre,
                ".......", "..O....", ".O.O...", ".O.O...", "..O....");

        GoBoard several = Expect.drawn(
                "...O...", "..OXO..", ".OO.OO.", "OXX.XXO", ".OO.OO.", "..OXO..", "...O...");
        EXPECT.due("two of four arms", several.trial(1, 24), 4);
        EXPECT.due("one of four arms", several.play(1, 17), 1);
        GoBoard three = Expect.drawn(".X.X.X.", "XOXOXOX", "XO.OXOX", ".XOX...", "..X....");
        EXPECT.due("three groups at once, one lives", three.play(0, 16), 5);
        EXPECT.looksLike("three groups at once, one lives", three,
                ".X.X.X.", "X.X.XOX", "X.X.XOX", ".X.X...", "..X....");

        GoBoard noLiberty = Expect.drawn(".OX....", "OX.....", "X......");
        EXPECT.due("a capture makes the liberty", noLiberty.play(0, 0), 2);
        EXPECT.looksLike("a capture makes the liberty", noLiberty, "X.X....", ".X.....", "X......");
    }

    private static void groupsWithoutLibertiesFarAway() {
        GoBoard board = Expect.drawn(
                "XO...OX", "O.....O", ".......", ".......", ".......", "X......", "OX.....");
        EXPECT.due("the mover's own stay", board.play(0, 24), 1);
        EXPECT.looksLike("the mover's own stay", board,
                "XO...OX", "O.....O", ".......", "...X...", ".......", "X......", ".X.....");
        EXPECT.due("the other's go, wherever they are", board.play(1, 31), 2);
        EXPECT.looksLike("the other's go, wherever they are", board,
                ".O...O.", "O.....O", ".......", "...X...", "...O...", "X......", ".X.....");

        GoBoard suicide = Expect.drawn(
                "XO.....", "O......", ".......", ".......", ".......", ".....XX", "....XO.");
        EXPECT.refused("suicide although stones far away would go", suicide,
                b -> b.play(1, 48), GoBoard.SUICIDE);
    }

    private static void rowsDoNotRunOn() {
        GoBoard board = Expect.drawn("......X", "O......");
        EXPECT.due("liberties(6), not beside 7", board.liberties(6), 2);
        EXPECT.due("play(1, 5)", board.play(1, 5), 0);
        EXPECT.due("play(1, 13)", board.play(1, 13), 1);
        GoBoard left = Expect.drawn(".......", "X.....O", "......O");
        left.play(1, 0);
        left.play(1, 8);
        EXPECT.due("play(1, 14)", left.play(1, 14), 1);
    }

    private static void wrongArguments() {
        for (int p : Expect.NOT_A_PLAYER) {
            GoBoard board = Expect.drawn("XO.....");
            EXPECT.refused("play(" + p + ", 5)", board, b -> b.play(p, 5), GoBoard.BAD_ARG);
            EXPECT.refused("play(" + p + ", 0)", board, b -> b.play(p, 0), GoBoard.BAD_ARG);
        }
        for (int q : Expect.NOT_A_POINT) {
            GoBoard board = Expect.drawn("XO.....");
            EXPECT.refused("play(0, " + q + ")", board, b -> b.play(0, q), GoBoard.BAD_ARG);
            EXPECT.refused("play(1, " + q + ")", board, b -> b.play(1, q), GoBoard.BAD_ARG);
        }
        GoBoard full = new GoBoard();
        Expect.passes(full, 40);
        EXPECT.refused("BAD_ARG before FULL", full, b -> b.play(0, 49), GoBoard.BAD_ARG);
        EXPECT.refused("BAD_ARG before FULL", full, b -> b.play(2, 0), GoBoard.BAD_ARG);
    }

    private static void taken() {
        for (int p = 0; p <= 1; p++) {
            int player = p;
            GoBoard board = Expect.drawn("XO.....");
            EXPECT.refused("at a stone of 0", board, b -> b.play(player, 0), GoBoard.TAKEN);
            EXPECT.refused("at a stone of 1", board, b -> b.play(player, 1), GoBoard.TAKEN);
        }
        GoBoard full = Expect.drawn("XO.....");
        Expect.passes(full, 40);
        EXPECT.refused("TAKEN before FULL", full, b -> b.play(0, 1), GoBoard.TAKEN);
    }

    private static void full() {
        GoBoard board = new GoBoard();
        for (int q = 0; q < 40; q++) {
            EXPECT.due("move " + (q + 1), board.play(0, q), 0);
        }
        EXPECT.refused("move 41", board, b -> b.play(0, 48), GoBoard.FULL);
        board.undo();
        EXPECT.due("move 40 again", board.play(0, 48), 0);

        GoBoard suicide = Expect.drawn(".O.....", "O......");
        Expect.passes(suicide, 40);
        EXPECT.refused("FULL before SUICIDE", suicide, b -> b.play(0, 0), GoBoard.FULL);

        GoBoard ko = readyForKo();
        Expect.passes(ko, 39);
        ko.play(1, 9);
        EXPECT.due("trial of the ko", ko.trial(0, 8), GoBoard.KO);
        EXPECT.refused("FULL before KO", ko, b -> b.play(0, 8), GoBoard.FULL);
    }

    private static void suicide() {
        GoBoard one = Expect.drawn(".O.....", "O......");
        EXPECT.refused("one stone", one, b -> b.play(0, 0), GoBoard.SUICIDE);
        EXPECT.due("the other may", one.play(1, 0), 0);

        GoBoard several = Expect.drawn("X.O....", "XXO....", "OOO....");
        EXPECT.refused("a group", several, b -> b.play(0, 1), GoBoard.SUICIDE);
        EXPECT.due("which the other captures", several.play(1, 1), 3);

        GoBoard friend = Expect.drawn(".XO....", "O......");
        EXPECT.due("a liberty of the group is enough", friend.play(0, 0), 0);

        GoBoard rest = Expect.drawn(
                ".XXXXXX", "XXXXXXX", "XXXXXXX", "XXXXXXX", "XXXXXXX", "XXXXXXX", "XXXXXXX");
        EXPECT.refused("the last point", rest, b -> b.play(0, 0), GoBoard.SUICIDE);
        EXPECT.due("the last point by the other", rest.play(1, 0), 48);
        EXPECT.looksLike("the last point by the other", rest, "O......");
    }

    /** Player 1 captures the stone at 8 by a move at 9; player 0 could take back at 8. */
    private static GoBoard readyForKo() {
        return Expect.drawn(".OX....", "OX.X...", ".OX....");
    }

    private static void ko() {
        GoBoard board = readyForKo();
        EXPECT.due("the ko is taken", board.play(1, 9), 1);
        EXPECT.refused("taken back at once", board, b -> b.play(0, 8), GoBoard.KO);
        EXPECT.due("the other may fill it", board.trial(1, 8), 0);
        EXPECT.due("a move elsewhere", board.play(0, 48), 0);
        EXPECT.due("taken back later", board.play(0, 8), 1);
        EXPECT.refused("and the other way round", board, b -> b.play(1, 9), GoBoard.KO);
        EXPECT.due("undo()", board.undo(), 2);
        EXPECT.due("play(0, 8) after undo", board.trial(0, 8), 1);
        EXPECT.due("undo()", board.undo(), 1);
        EXPECT.refused("the undo brings the ko back", board, b -> b.play(0, 8), GoBoard.KO);
    }

    private static void noKo() {
        GoBoard passed = readyForKo();
        passed.play(1, 9);
        passed.pass();
        EXPECT.due("after a pass", passed.play(0, 8), 1);

        GoBoard set = readyForKo();
        set.play(1, 9);
        set.set(0, 48);
        set.set(2, 48);
        EXPECT.due("after set nothing was done", set.play(0, 8), 1);

        GoBoard snapback = Expect.drawn("O.O....", "XXO....", "OO.....");
        EXPECT.due("one stone goes", snapback.play(0, 1), 1);
        EXPECT.due("and takes three with it", snapback.play(1, 0), 3);

        GoBoard back = Expect.drawn("XX.O...", "OOO....");
        EXPECT.due("two stones go", back.play(1, 2), 2);
        EXPECT.due("one comes back", back.play(0, 1), 0);
        EXPECT.due("which goes again", back.play(1, 0), 1);
    }
}
