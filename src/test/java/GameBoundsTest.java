/** The document's section "Games" and promises 1 to 12: each test stands for a sentence. */
final class GameBoundsTest {
    private static final int MIN = Integer.MIN_VALUE;
    private static final int MAX = Integer.MAX_VALUE;

    public static void main(String[] args) throws Exception {
        Due.runAll(GameBoundsTest.class);
    }

    // ---- the section "Games"

    static void gamesBeginEmptyWithPlayer0() {
        for (int n = 2; n <= 7; n++) {
            HexWorkbench x = Due.game(n == 7 ? 2 : n + 1, 0, 1);
            x.begin(n);
            Due.is("stones(0)", x.stones(0), 0);
            Due.is("stones(1)", x.stones(1), 0);
            Due.is("turn() of move 0", x.turn(), 0);
            x.play(0);
            Due.is("stones(0) after move 0", x.stones(0), 1);
            Due.is("turn() of move 1", x.turn(), 1);
            x.play(3);
            Due.is("stones(1) after move 1", x.stones(1), 8);
            Due.is("turn() of move 2", x.turn(), 0);
            x.play(1);
            Due.is("stones(0) after move 2", x.stones(0), 3);
            Due.is("stones(1) after move 2", x.stones(1), 8);
        }
    }

    static void movesNeedAnEmptyCell() {
        HexWorkbench x = Due.game(3, 4, 0);
        Due.is("an own stone", x.play(4), Due.NOT_POSSIBLE);
        Due.is("a stone of the other player", x.play(0), Due.NOT_POSSIBLE);
        Due.is("stones(0) stay", x.stones(0), Due.set(4));
        Due.is("turn() stays", x.turn(), 0);
        x.takeBack();
        Due.is("the cell of a stone taken back", x.play(0), 1);
        HexWorkbench y = Due.game(3, 1, Due.SWAP);
        Due.is("the cell to which the swap brought the stone", y.play(3), Due.NOT_POSSIBLE);
        Due.is("the cell that the swap left", y.play(1), 2);
        HexWorkbench z = Due.game(3, 4, Due.SWAP);
        Due.is("a cell that the swap left and took", z.play(4), Due.NOT_POSSIBLE);
    }

    static void swapsExchangeRowAndColumn() {
        for (int n = 2; n <= 7; n++) {
            HexWorkbench x = Due.game(n);
            for (int cell = 0; cell < n * n; cell++) {
                x.begin(n);
                x.play(cell);
                int image = cell % n * n + cell / n;
                Due.is(n + " rows: swap() of " + cell, x.swap(), image);
                Due.is(n + " rows: stones(0)", x.stones(0), 0);
                Due.is(n + " rows: stones(1)", x.stones(1), 1L << image);
            }
        }
        HexWorkbench diagonal = Due.game(5, 12);
        Due.is("swap() of a cell on the diagonal", diagonal.swap(), 12);
        Due.is("its stone is player 1's", diagonal.stones(1), Due.set(12));
    }

    static void noMovesWhenWon() {
        HexWorkbench x = Due.game(3, 1, 0, 4, 2, 7);
        for (int cell = 0; cell < 9; cell++) {
            Due.is("play(" + cell + ") when player 0 has won", x.play(cell), Due.NOT_POSSIBLE);
        }
        Due.is("moves()", x.moves(), 5);
        HexWorkbench y = Due.game(3, 0, 3, 1, 4, 8, 5);
        for (int cell = 0; cell < 9; cell++) {
            Due.is("play(" + cell + ") when player 1 has won", y.play(cell), Due.NOT_POSSIBLE);
        }
        Due.is("swap() when won", y.swap(), Due.NOT_POSSIBLE);
        y.takeBack();
        Due.is("play(6) when the win is taken back", y.play(6), 5);
    }

    static void movesAreNumberedFrom0() {
        HexWorkbench x = new HexWorkbench();
        Due.is("the first move", x.play(12), 0);
        Due.is("the second move", x.play(13), 1);
        Due.is("moveAt(0)", x.moveAt(0), 12);
        Due.is("moveAt(1)", x.moveAt(1), 13);
        x.takeBack();
        x.takeBack();
        Due.is("again(), the first move", x.again(), 0);
        Due.is("again(), the second move", x.again(), 1);
    }

    static void takenBackUntilAnotherMove() {
        HexWorkbench x = Due.game(5, 12, 7, 3, 20);
        x.takeBack();
        x.takeBack();
        x.takeBack();
        Due.is("the latest one first", x.again(), 1);
        Due.is("its cell", x.moveAt(1), 7);
        Due.is("then the next one", x.again(), 2);
        Due.is("its cell", x.moveAt(2), 3);
        x.takeBack();
        x.takeBack();
        Due.is("a move that is refused is none", x.play(12), Due.NOT_POSSIBLE);
        Due.is("so they can be made again", x.again(), 1);
        x.takeBack();
        Due.is("another move on the same cell", x.play(7), 1);
        Due.is("none can be made again then", x.again(), Due.NOT_POSSIBLE);
        Due.is("moves()", x.moves(), 2);
        HexWorkbench y = Due.game(5, 12, 7, 3);
        y.takeBack();
        y.takeBack();
        y.swap();
        Due.is("a swap is another move too", y.again(), Due.NOT_POSSIBLE);
        y.takeBack();
        Due.is("the swap can be made again", y.again(), 1);
        Due.is("moveAt(1)", y.moveAt(1), Due.SWAP);
    }

    // ---- promise 1

    static void newObjectsAreEmpty() {
        HexWorkbench x = new HexWorkbench();
        Due.is("rows()", x.rows(), 5);
        Due.is("stones(0)", x.stones(0), 0);
        Due.is("stones(1)", x.stones(1), 0);
        Due.is("moves()", x.moves(), 0);
        Due.is("moveAt(0)", x.moveAt(0), Due.BAD_INDEX);
        Due.is("takeBack()", x.takeBack(), Due.NOT_POSSIBLE);
        Due.is("again()", x.again(), Due.NOT_POSSIBLE);
        Due.is("threats(0)", x.threats(0), 0);
        Due.is("threats(1)", x.threats(1), 0);
        Due.is("clearThreats()", x.clearThreats(), 0);
        Due.is("faultPosition()", x.faultPosition(), Due.NONE);
        Due.is("clearText()", x.clearText(), 0);
        Due.is("restore(0)", x.restore(0), Due.NOT_POSSIBLE);
        Due.is("restore(1)", x.restore(1), Due.NOT_POSSIBLE);
    }

    /** What one object has is not in another one. */
    static void objectsShareNothing() {
        HexWorkbench x = Due.game(2);
        x.addThreat(0, Due.set(1, 2, 3));
        x.play(1);
        x.append('a');
        x.save(0);
        HexWorkbench y = new HexWorkbench();
        Due.is("rows()", y.rows(), 5);
        Due.is("moves()", y.moves(), 0);
        Due.is("clearThreats()", y.clearThreats(), 0);
        Due.is("clearText()", y.clearText(), 0);
        Due.is("restore(0)", y.restore(0), Due.NOT_POSSIBLE);
    }

    // ---- promise 2

    static void beginEmptiesTheBoard() {
        HexWorkbench x = Due.game(3, 1, 0, 4, 2, 7);
        Due.is("begin(3) with as many rows", x.begin(3), 3);
        Due.is("stones(0)", x.stones(0), 0);
        Due.is("stones(1)", x.stones(1), 0);
        Due.is("winner()", x.winner(), Due.NONE);
        Due.is("play(1)", x.play(1), 0);
    }

    static void beginLeavesNoMovesAndNoThreats() {
        HexWorkbench x = Due.game(2, 1, 0);
        x.takeBack();
        Due.is("addThreat", x.addThreat(0, Due.set(2, 3)), 1);
        x.begin(2);
        Due.is("moves()", x.moves(), 0);
        Due.is("moveAt(0)", x.moveAt(0), Due.BAD_INDEX);
        Due.is("takeBack()", x.takeBack(), Due.NOT_POSSIBLE);
        Due.is("again()", x.again(), Due.NOT_POSSIBLE);
        Due.is("threats(0)", x.threats(0), 0);
        Due.is("needed(0)", x.needed(0), Due.NONE);
        Due.is("clearThreats()", x.clearThreats(), 0);
    }

    static void beginTakes2To7Rows() {
        for (int rows : new int[] {1, 8, 0, -1, -2, 9, 64, MIN, MAX}) {
            HexWorkbench x = Due.game(3, 4);
            Due.is("begin(" + rows + ")", x.begin(rows), Due.BAD_VALUE);
            Due.is("rows()", x.rows(), 3);
            Due.is("moves()", x.moves(), 1);
        }
        for (int rows = 2; rows <= 7; rows++) {
            HexWorkbench x = new HexWorkbench();
            Due.is("begin(" + rows + ")", x.begin(rows), 5);
            Due.is("rows()", x.rows(), rows);
        }
    }

    static void beginReturnsThePreviousRows() {
        HexWorkbench x = new HexWorkbench();
        Due.is("begin(2)", x.begin(2), 5);
        Due.is("begin(8)", x.begin(8), Due.BAD_VALUE);
        Due.is("begin(7) after one that was refused", x.begin(7), 2);
        x.save(0);
        Due.is("begin(7) again", x.begin(7), 7);
        x.begin(3);
        x.restore(0);
        Due.is("begin(4) after restore(0)", x.begin(4), 7);
    }

    // ---- promise 3

    static void rowsAreThoseOfTheBoard() {
        HexWorkbench x = new HexWorkbench();
        Due.is("at first", x.rows(), 5);
        x.begin(2);
        Due.is("after begin(2)", x.rows(), 2);
        x.save(0);
        x.begin(7);
        Due.is("after begin(7)", x.rows(), 7);
        x.restore(0);
        Due.is("after restore(0)", x.rows(), 2);
        x.read();
        Due.is("after read()", x.rows(), 2);
    }

    // ---- promise 4

    static void playNeedsACell() {
        for (int n = 2; n <= 7; n++) {
            HexWorkbench x = Due.game(n);
            for (int cell : new int[] {-1, n * n, n * n + 1, 64, -64, MIN, MAX}) {
                Due.is(n + " rows: play(" + cell + ")", x.play(cell), Due.BAD_INDEX);
            }
            Due.is(n + " rows: moves()", x.moves(), 0);
            Due.is(n + " rows: the first cell", x.play(0), 0);
            Due.is(n + " rows: the last cell", x.play(n * n - 1), 1);
        }
    }

    static void playReturnsTheMoveOrAnError() {
        HexWorkbench x = Due.game(2, 0, 3);
        Due.is("no cell", x.play(4), Due.BAD_INDEX);
        Due.is("not empty", x.play(3), Due.NOT_POSSIBLE);
        Due.is("the winning move", x.play(2), 2);
        Due.is("an empty cell when won", x.play(1), Due.NOT_POSSIBLE);
        Due.is("no cell when won", x.play(4), Due.BAD_INDEX);
        Due.is("no cell when won", x.play(-1), Due.BAD_INDEX);
        HexWorkbench longest = Due.game(7, 0, Due.SWAP, 28, 48, 41, 9, 21, 14, 43, 37, 40, 6, 39, 17, 10, 36, 8,
                30, 35, 20, 2, 33, 12, 42, 5, 16, 23, 44, 38, 29, 11, 22, 26, 46, 25, 1, 3, 45, 27, 4, 13, 31, 34,
                15, 24, 18, 32, 7, 19);
        Due.is("winner() with one cell empty", longest.winner(), Due.NONE);
        Due.is("the last move of the longest game", longest.play(47), 49);
        Due.is("a full board", longest.play(47), Due.NOT_POSSIBLE);
    }

    // ---- promise 5

    static void swapIsTheSecondMove() {
        HexWorkbench x = new HexWorkbench();
        Due.is("as the first move", x.swap(), Due.NOT_POSSIBLE);
        x.play(1);
        x.play(2);
        Due.is("as the third move", x.swap(), Due.NOT_POSSIBLE);
        x.takeBack();
        Due.is("as the second move", x.swap(), 5);
        Due.is("as the third move, after a swap", x.swap(), Due.NOT_POSSIBLE);
        x.takeBack();
        x.takeBack();
        Due.is("as the first move, with moves taken back", x.swap(), Due.NOT_POSSIBLE);
        x.again();
        Due.is("as the second move, after again()", x.swap(), 5);
        x.play(9);
        Due.is("as the fourth move", x.swap(), Due.NOT_POSSIBLE);
    }

    // ---- promises 6 and 7

    static void takeBackNeedsAMove() {
        HexWorkbench x = new HexWorkbench();
        Due.is("a new object", x.takeBack(), Due.NOT_POSSIBLE);
        x.play(3);
        Due.is("the only move", x.takeBack(), 0);
        Due.is("none left", x.takeBack(), Due.NOT_POSSIBLE);
        x.again();
        x.swap();
        Due.is("a swap", x.takeBack(), 1);
        Due.is("the stone is back", x.stones(0), Due.set(3));
        Due.is("and not player 1's", x.stones(1), 0);
        HexWorkbench won = Due.game(2, 0, 1, 2);
        Due.is("the winning move", won.takeBack(), 2);
        Due.is("winner()", won.winner(), Due.NONE);
        won.begin(2);
        Due.is("after begin", won.takeBack(), Due.NOT_POSSIBLE);
        won.read();
        Due.is("after reading an empty text", won.takeBack(), Due.NOT_POSSIBLE);
    }

    static void againNeedsAMoveTakenBack() {
        HexWorkbench x = new HexWorkbench();
        Due.is("a new object", x.again(), Due.NOT_POSSIBLE);
        x.play(3);
        Due.is("nothing taken back", x.again(), Due.NOT_POSSIBLE);
        x.takeBack();
        Due.is("the first move", x.again(), 0);
        Due.is("only once", x.again(), Due.NOT_POSSIBLE);
        HexWorkbench won = Due.game(2, 0, 1, 2);
        won.takeBack();
        Due.is("the winning move", won.again(), 2);
        Due.is("winner()", won.winner(), 0);
        Due.is("no more when won", won.again(), Due.NOT_POSSIBLE);
        won.takeBack();
        won.begin(2);
        Due.is("after begin", won.again(), Due.NOT_POSSIBLE);
    }

    static void takeBackAndAgainTheLongestGame() {
        int[] cells = {0, Due.SWAP, 28, 48, 41, 9, 21, 14, 43, 37, 40, 6, 39, 17, 10, 36, 8, 30, 35, 20, 2, 33,
            12, 42, 5, 16, 23, 44, 38, 29, 11, 22, 26, 46, 25, 1, 3, 45, 27, 4, 13, 31, 34, 15, 24, 18, 32, 7, 19, 47};
        HexWorkbench x = Due.game(7, cells);
        for (int left = 49; left >= 0; left--) {
            Due.is("takeBack()", x.takeBack(), left);
        }
        Due.is("stones(0) | stones(1)", x.stones(0) | x.stones(1), 0);
        for (int i = 0; i < 50; i++) {
            Due.is("again()", x.again(), i);
            Due.is("moveAt(" + i + ")", x.moveAt(i), cells[i]);
        }
        Due.is("again() after the last one", x.again(), Due.NOT_POSSIBLE);
        Due.is("winner()", x.winner(), 1);
    }

    // ---- promises 8 to 12

    static void movesCountsFrom0To50() {
        HexWorkbench x = new HexWorkbench();
        Due.is("none", x.moves(), 0);
        x.play(0);
        Due.is("one", x.moves(), 1);
        x.swap();
        Due.is("a swap counts", x.moves(), 2);
        x.play(99);
        Due.is("a refused move does not", x.moves(), 2);
        x.takeBack();
        Due.is("a move taken back does not", x.moves(), 1);
    }

    static void moveAtNeedsTheNumberOfAMove() {
        HexWorkbench x = Due.game(5, 12, Due.SWAP, 7);
        for (int index : new int[] {-1, 3, 4, 50, 64, MIN, MAX}) {
            Due.is("moveAt(" + index + ")", x.moveAt(index), Due.BAD_INDEX);
        }
        x.takeBack();
        Due.is("a move that could be made again", x.moveAt(2), Due.BAD_INDEX);
        x.takeBack();
        x.takeBack();
        Due.is("no moves", x.moveAt(0), Due.BAD_INDEX);
    }

    static void moveAtReturnsCellOrSwap() {
        HexWorkbench x = Due.game(7, 48, Due.SWAP, 0);
        Due.is("the first one, though its stone is removed", x.moveAt(0), 48);
        Due.is("the swap", x.moveAt(1), -16);
        Due.is("the last one", x.moveAt(2), 0);
    }

    static void turnFollowsTheNumberOfMoves() {
        HexWorkbench zero = Due.game(2, 0, 1, 2);
        Due.is("winner()", zero.winner(), 0);
        Due.is("three moves, and player 0 has won", zero.turn(), 1);
        HexWorkbench one = Due.game(2, 0, 1, 3, 2);
        Due.is("winner()", one.winner(), 1);
        Due.is("four moves, and player 1 has won", one.turn(), 0);
        HexWorkbench swapped = Due.game(2, 0, Due.SWAP);
        Due.is("two moves, one of them a swap", swapped.turn(), 0);
        swapped.takeBack();
        Due.is("one move", swapped.turn(), 1);
        swapped.takeBack();
        Due.is("no moves", swapped.turn(), 0);
    }

    static void winnerOrNone() {
        HexWorkbench x = Due.game(2, 0, 1);
        Due.is("nobody", x.winner(), -15);
        x.play(2);
        Due.is("player 0", x.winner(), 0);
        x.takeBack();
        Due.is("nobody again", x.winner(), -15);
        x.play(3);
        x.play(2);
        Due.is("player 1", x.winner(), 1);
        x.begin(7);
        Due.is("an empty board", x.winner(), -15);
    }

    static void stonesNeedAPlayer() {
        HexWorkbench x = Due.game(7, 48, 0);
        for (int player : Due.NOT_0_OR_1) {
            Due.is("stones(" + player + ")", x.stones(player), Due.BAD_INDEX);
        }
    }

    static void stonesOfEachPlayer() {
        HexWorkbench x = Due.game(7);
        Due.is("none of player 0", x.stones(0), 0);
        Due.is("none of player 1", x.stones(1), 0);
        x.play(48);
        x.play(0);
        Due.is("the last cell", x.stones(0), 1L << 48);
        Due.is("the first cell", x.stones(1), 1);
    }
}
