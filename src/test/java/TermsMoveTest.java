/** What "Terms" says of a MOVE, of SUICIDE and of KO. */
public final class TermsMoveTest {
    private static final Expect EXPECT = new Expect();

    public static void main(String[] args) {
        anyPlayerAtAnyTime();
        takesGroupsWithoutLibertiesOff();
        takesAllOfThem();
        takesOnlyTheOtherPlayers();
        suicideOfOneStone();
        suicideOfAGroup();
        suicideOnTheLastPoint();
        suicideIsAskedAfterTheCapture();
        suicideIsAskedOfTheNewStonesGroupAlone();
        ko();
        koAtTheEdges();
        koOnlyIfTheWholeBoardIsTheSame();
        koOnlyIfSomethingWasDone();
        koAsksForTheLastOneOnly();
        koAfterUndo();
        koAtTheLastMoveThereIsRoomFor();
        EXPECT.end();
    }

    private static void anyPlayerAtAnyTime() {
        EXPECT.says("Any player may move at any time");
        GoBoard board = new GoBoard();
        EXPECT.due("player 1 first", board.play(1, 0), 0);
        EXPECT.due("the same player again", board.play(1, 6), 0);
        EXPECT.due("and again", board.play(1, 42), 0);
        EXPECT.due("the other", board.play(0, 48), 0);
        EXPECT.due("pass()", board.pass(), 5);
        EXPECT.due("the same player after a pass", board.play(0, 24), 0);
        EXPECT.looksLike("six done", board,
                "O.....O", ".......", ".......", "...X...", ".......", ".......", "O.....X");
    }

    private static void takesGroupsWithoutLibertiesOff() {
        EXPECT.says("then takes all groups of the other player that have no liberty off the board");
        GoBoard corner = Expect.drawn("XO.....");
        EXPECT.due("one stone in a corner", corner.play(1, 7), 1);
        EXPECT.looksLike("one stone in a corner", corner, ".O.....", "O......");

        GoBoard lastCorner = Expect.drawn(
                ".......", ".......", ".......", ".......", ".......", ".......", ".....XO");
        EXPECT.due("one stone in the last corner", lastCorner.play(0, 41), 1);
        EXPECT.due("at(48)", lastCorner.at(48), 2);

        GoBoard edge = Expect.drawn("OXX.O..", ".OO....");
        EXPECT.due("two stones on an edge", edge.play(1, 3), 2);
        EXPECT.looksLike("two stones on an edge", edge, "O..OO..", ".OO....");

        GoBoard centre = Expect.drawn(".......", "..O....", ".OXO...", "..XO...", "..O....");
        EXPECT.due("two stones in the centre", centre.play(1, 22), 2);
        EXPECT.looksLike("two stones in the centre", centre,
                ".......", "..O....", ".O.O...", ".O.O...", "..O....");

        GoBoard lives = Expect.drawn("XO.....", "X......");
        EXPECT.due("a group with one liberty stays", lives.play(1, 8), 0);
        EXPECT.due("groupSize(0)", lives.groupSize(0), 2);
    }

    private static void takesAllOfThem() {
        EXPECT.says("takes ALL groups of the other player that have no liberty off");
        GoBoard three = Expect.drawn(".X.X.X.", "XOXOXOX", "XO.OXOX", ".XOX...", "..X....");
        EXPECT.due("three groups go, one lives", three.play(0, 16), 5);
        EXPECT.looksLike("three groups go, one lives", three,
                ".X.X.X.", "X.X.XOX", "X.X.XOX", ".X.X...", "..X....");

        GoBoard four = Expect.drawn(".......", "...X...", "..XOX..", ".XO.OX.", "..XOX..", "...X...");
        EXPECT.due("four groups around one point", four.play(0, 24), 4);
        EXPECT.looksLike("four groups around one point", four,
                ".......", "...X...", "..X.X..", ".X.X.X.", "..X.X..", "...X...");

        GoBoard far = Expect.drawn(
                "XO...OX", "O.....O", ".......", ".......", ".......", "O.....O", "XO...OX");
        EXPECT.due("four groups that set left, far from the move", far.play(1, 24), 4);
        EXPECT.looksLike("four groups that set left", far,
                ".O...O.", "O.....O", ".......", "...O...", ".......", "O.....O", ".O...O.");
    }

    private static void takesOnlyTheOtherPlayers() {
        EXPECT.says("takes all groups of THE OTHER PLAYER off");
        GoBoard board = Expect.drawn(
                "XO...OX", "O.....O", ".......", ".......", ".......", "X......", "OX.....");
        EXPECT.due("the mover's own stay", board.play(0, 24), 1);
        EXPECT.looksLike("the mover's own stay", board,
                "XO...OX", "O.....O", ".......", "...X...", ".......", "X......", ".X.....");
        EXPECT.due("the other's go", board.play(1, 31), 2);
        EXPECT.looksLike("the other's go", board,
                ".O...O.", "O.....O", ".......", "...X...", "...O...", "X......", ".X.....");
    }

    private static void suicideOfOneStone() {
        EXPECT.says("SUICIDE if the group of the new stone then has no liberty: one stone");
        GoBoard board = Expect.drawn(".O...X.", "O.....X");
        EXPECT.refused("play(0, 0)", board, b -> b.play(0, 0), GoBoard.SUICIDE);
        EXPECT.refused("play(1, 6)", board, b -> b.play(1, 6), GoBoard.SUICIDE);
        EXPECT.due("its neighbours' own player may", board.play(1, 0), 0);
        EXPECT.due("its neighbours' own player may", board.play(0, 6), 0);
    }

    private static void suicideOfAGroup() {
        EXPECT.says("SUICIDE if the group of the new stone then has no liberty: a group");
        GoBoard several = Expect.drawn("X.O....", "XXO....", "OOO....");
        EXPECT.refused("play(0, 1)", several, b -> b.play(0, 1), GoBoard.SUICIDE);
        EXPECT.due("the other captures there", several.play(1, 1), 3);

        GoBoard two = Expect.drawn("X.XO...", "OOO....");
        EXPECT.refused("a stone between two groups", two, b -> b.play(0, 1), GoBoard.SUICIDE);

        GoBoard liberty = Expect.drawn(".XO....", "O......");
        EXPECT.due("one liberty of the group is enough", liberty.play(0, 0), 0);
        EXPECT.due("liberties(0)", liberty.liberties(0), 1);

        GoBoard oneOfTwo = Expect.drawn("X.X....", "OOO....");
        EXPECT.due("one of two groups has a liberty", oneOfTwo.play(0, 1), 0);
        EXPECT.due("groupSize(0)", oneOfTwo.groupSize(0), 3);
    }

    private static void suicideOnTheLastPoint() {
        EXPECT.says("SUICIDE on the last empty point");
        GoBoard board = Expect.drawn(
                "XXXXXXX", "XXXXXXX", "XXXXXXX", "XXX.XXX", "XXXXXXX", "XXXXXXX", "XXXXXXX");
        EXPECT.refused("by the player of all stones", board, b -> b.play(0, 24), GoBoard.SUICIDE);
        EXPECT.due("by the other one", board.play(1, 24), 48);
        EXPECT.looksLike("by the other one", board, ".......", ".......", ".......", "...O...");
    }

    private static void suicideIsAskedAfterTheCapture() {
        EXPECT.says("SUICIDE if the group of the new stone THEN has no liberty");
        GoBoard beside = Expect.drawn(".OX....", "OX.....", "X......");
        EXPECT.due("a capture beside it makes liberties", beside.play(0, 0), 2);
        EXPECT.looksLike("a capture makes liberties", beside, "X.X....", ".X.....", "X......");

        GoBoard group = Expect.drawn("X.OX...", "OOOX...", "XXX....");
        EXPECT.due("a capture beside its group", group.play(0, 1), 4);
        EXPECT.looksLike("a capture beside its group", group, "XX.X...", "...X...", "XXX....");

        GoBoard far = Expect.drawn(
                "XO.....", "O......", ".......", ".......", ".......", ".....XX", "....XO.");
        EXPECT.refused("a capture elsewhere makes it none", far, b -> b.play(1, 48), GoBoard.SUICIDE);
    }

    private static void suicideIsAskedOfTheNewStonesGroupAlone() {
        EXPECT.says("SUICIDE if the group OF THE NEW STONE then has no liberty");
        GoBoard board = Expect.drawn("XO.....", "O......");
        EXPECT.due("another own group has none", board.play(0, 24), 0);
        EXPECT.due("it stays without", board.liberties(0), 0);
    }

    /** Player 1 captures the stone at 8 by a move at 9; player 0 could take back at 8. */
    private static GoBoard readyForKo() {
        return Expect.drawn(".OX....", "OX.X...", ".OX....");
    }

    private static void ko() {
        EXPECT.says("KO if the board then is the same as it was before the last move");
        GoBoard board = readyForKo();
        EXPECT.due("the ko is taken", board.play(1, 9), 1);
        EXPECT.refused("taken back at once", board, b -> b.play(0, 8), GoBoard.KO);
        EXPECT.refused("tried once more", board, b -> b.play(0, 8), GoBoard.KO);
        EXPECT.due("its own player may fill it", board.trial(1, 8), 0);
        EXPECT.due("a move elsewhere", board.play(0, 48), 0);
        EXPECT.due("taken back later", board.play(0, 8), 1);
        EXPECT.refused("and the other way round", board, b -> b.play(1, 9), GoBoard.KO);
    }

    private static void koAtTheEdges() {
        EXPECT.says("KO in a corner and on an edge");
        GoBoard corner = Expect.drawn(".OX....", "OX.....");
        EXPECT.due("play(0, 0)", corner.play(0, 0), 1);
        EXPECT.refused("play(1, 1)", corner, b -> b.play(1, 1), GoBoard.KO);

        GoBoard lastCorner = Expect.drawn(
                ".......", ".......", ".......", ".......", ".......", ".....XO", "....XO.");
        EXPECT.due("play(0, 48)", lastCorner.play(0, 48), 1);
        EXPECT.refused("play(1, 47)", lastCorner, b -> b.play(1, 47), GoBoard.KO);

        GoBoard edge = Expect.drawn("..XO.O.", "...XO..");
        EXPECT.due("play(0, 4)", edge.play(0, 4), 1);
        EXPECT.refused("play(1, 3)", edge, b -> b.play(1, 3), GoBoard.KO);
    }

    private static void koOnlyIfTheWholeBoardIsTheSame() {
        EXPECT.says("KO if THE BOARD then is the same");
        GoBoard snapback = Expect.drawn("O.O....", "XXO....", "OO.....");
        EXPECT.due("one stone goes", snapback.play(0, 1), 1);
        EXPECT.due("and takes three with it", snapback.play(1, 0), 3);

        GoBoard two = Expect.drawn("XX.O...", "OOO....");
        EXPECT.due("two stones go", two.play(1, 2), 2);
        EXPECT.due("one comes back", two.play(0, 1), 0);
        EXPECT.due("which goes again", two.play(1, 0), 1);

        GoBoard far = Expect.drawn(
                ".OX....", "OX.X...", ".OX....", ".......", ".......", "......O", ".....OX");
        EXPECT.due("the ko, and a group that set left far away", far.play(1, 9), 2);
        EXPECT.due("the group far away stays off", far.play(0, 8), 1);
    }

    private static void koOnlyIfSomethingWasDone() {
        EXPECT.says("KO .. the last move or pass that was done (if there is one)");
        GoBoard board = readyForKo();
        board.play(1, 9);
        board.set(0, 48);
        board.set(2, 48);
        EXPECT.due("after set nothing was done", board.play(0, 8), 1);

        GoBoard fresh = new GoBoard();
        EXPECT.due("the first move of all", fresh.play(0, 0), 0);

        GoBoard undone = readyForKo();
        undone.play(1, 9);
        undone.undo();
        EXPECT.due("all was taken back", undone.play(1, 9), 1);
    }

    private static void koAsksForTheLastOneOnly() {
        EXPECT.says("KO .. before THE LAST move or pass");
        GoBoard passed = readyForKo();
        passed.play(1, 9);
        passed.pass();
        EXPECT.due("after a pass", passed.play(0, 8), 1);
        passed.pass();
        EXPECT.due("after one more", passed.play(1, 9), 1);

        GoBoard moved = readyForKo();
        moved.play(1, 9);
        moved.play(1, 48);
        EXPECT.due("after a move elsewhere", moved.play(0, 8), 1);
    }

    private static void koAfterUndo() {
        EXPECT.says("KO .. that was done and NOT TAKEN BACK");
        GoBoard board = readyForKo();
        board.play(1, 9);
        board.pass();
        EXPECT.due("undo() of a pass", board.undo(), 1);
        EXPECT.refused("the ko is back", board, b -> b.play(0, 8), GoBoard.KO);
        board.play(0, 48);
        EXPECT.due("undo() of a move elsewhere", board.undo(), 1);
        EXPECT.refused("the ko is back", board, b -> b.play(0, 8), GoBoard.KO);
        board.play(0, 48);
        EXPECT.due("play(0, 8)", board.play(0, 8), 1);
        EXPECT.due("undo() of the taking back", board.undo(), 2);
        EXPECT.due("it may be taken back again", board.play(0, 8), 1);

        GoBoard other = readyForKo();
        other.play(0, 48);
        other.play(1, 9);
        EXPECT.due("undo() of the ko", other.undo(), 1);
        EXPECT.due("play(0, 9) instead", other.play(0, 9), 0);
        EXPECT.due("groupSize(8)", other.groupSize(8), 5);
    }

    private static void koAtTheLastMoveThereIsRoomFor() {
        EXPECT.says("KO with 39 moves and passes done");
        GoBoard board = readyForKo();
        Expect.passes(board, 38);
        EXPECT.due("play(1, 9) as number 39", board.play(1, 9), 1);
        EXPECT.refused("play(0, 8) as number 40", board, b -> b.play(0, 8), GoBoard.KO);
        EXPECT.due("play(0, 48) as number 40", board.play(0, 48), 0);
    }
}
