import java.util.Arrays;

/** The section "Fillings" and promises 23 to 25: each test stands for a sentence. */
final class FillingBoundsTest {
    private static final int MIN = Integer.MIN_VALUE;
    private static final int MAX = Integer.MAX_VALUE;
    /** A game on four rows that fills the board with its last move; nobody has won before. */
    private static final int[] FILLS_4_ROWS = {5, 0, 10, 15, 8, 6, 4, 12, 1, 7, 3, 14, 11, 2, 13, 9};

    public static void main(String[] args) throws Exception {
        Due.runAll(FillingBoundsTest.class);
    }

    /** The first moves of the game above, so that so many cells are empty. */
    private static int[] movesUntil(int empty) {
        return Arrays.copyOf(FILLS_4_ROWS, 16 - empty);
    }

    static void fillingsAreTwoToTheEmptyCells() {
        for (int empty = 0; empty <= 12; empty++) {
            HexWorkbench x = Due.game(4, movesUntil(empty));
            Due.is(empty + " empty cells", x.fillings(0) + x.fillings(1), 1 << empty);
            Due.is(empty + " empty cells: fillings(0)", x.fillings(0),
                    Due.reference(4, movesUntil(empty)).fillings(0));
        }
        Due.is("fillings(0) of 2 rows", Due.game(2).fillings(0), 8);
        Due.is("fillings(1) of 2 rows", Due.game(2).fillings(1), 8);
        Due.is("fillings(0) of 3 rows", Due.game(3).fillings(0), 256);
        Due.is("fillings(1) of 3 rows", Due.game(3).fillings(1), 256);
    }

    static void fillingsDoNotDependOnTheTurn() {
        HexWorkbench zero = Due.game(3, 1, 3);
        HexWorkbench one = Due.game(3, 1, Due.SWAP, 1);
        Due.is("stones(0)", one.stones(0), zero.stones(0));
        Due.is("stones(1)", one.stones(1), zero.stones(1));
        Due.holds("the turns differ", one.turn() != zero.turn());
        Due.is("fillings(0)", one.fillings(0), zero.fillings(0));
        Due.is("dead()", one.dead(), zero.dead());
        for (int cell = 0; cell < 9; cell++) {
            Due.is("weight(" + cell + ")", one.weight(cell), zero.weight(cell));
        }
    }

    static void weightsCountTheOtherCells() {
        HexWorkbench decides = Due.game(2, 0, 1, 3);
        Due.is("the only empty cell decides", decides.weight(2), 1);
        HexWorkbench won = Due.game(2, 0, 1, 2);
        Due.is("the only empty cell decides nothing", won.weight(3), 0);
        HexWorkbench two = Due.game(2, 0, 1);
        Due.is("two empty cells: weight(2)", two.weight(2), 2);
        Due.is("two empty cells: weight(3)", two.weight(3), 0);
        HexWorkbench empty = Due.game(2);
        int[] due = {2, 4, 4, 2};
        for (int cell = 0; cell < 4; cell++) {
            Due.is("no stones: weight(" + cell + ")", empty.weight(cell), due[cell]);
        }
        int[] moves = movesUntil(12);
        for (int cell = 0; cell < 16; cell++) {
            Due.is("12 empty cells: weight(" + cell + ")", Due.game(4, moves).weight(cell),
                    Due.reference(4, moves).weight(cell));
        }
    }

    static void deadCellsHaveWeight0() {
        for (int empty = 0; empty <= 12; empty++) {
            HexWorkbench x = Due.game(4, movesUntil(empty));
            long dead = 0;
            for (int cell = 0; cell < 16; cell++) {
                dead |= x.weight(cell) == 0 ? 1L << cell : 0;
            }
            Due.is(empty + " empty cells: dead()", x.dead(), dead);
        }
        HexWorkbench corner = Due.game(2, 1);
        Due.is("a corner behind a stone", corner.dead(), Due.set(0));
        Due.is("none", Due.game(2).dead(), 0);
        Due.is("cell 0 and others", Due.game(3, 1, 8, 4, 5, 7).dead(), Due.set(0, 2, 3, 6));
        Due.is("cell 0 alone", Due.game(2, 1, 2, 3).dead(), Due.set(0));
    }

    static void deadCellsOfTheLargestBoard() {
        int[] moves = {0, Due.SWAP, 28, 48, 41, 9, 21, 14, 43, 37, 40, 6, 39, 17, 10, 36, 8, 30, 35, 20, 2, 33,
            12, 42, 5, 16, 23, 44, 38, 29, 11, 22, 26, 46, 25, 1, 3, 45};
        HexWorkbench x = Due.game(7, moves);
        Reference y = Due.reference(7, moves);
        Due.is("12 empty cells", Long.bitCount(y.emptySet()), 12);
        Due.is("fillings(0)", x.fillings(0), y.fillings(0));
        Due.is("dead()", x.dead(), y.dead());
        for (int cell = 0; cell < 49; cell++) {
            Due.is("weight(" + cell + ")", x.weight(cell), y.weight(cell));
        }
    }

    static void fillingsAreCountedWhenWon() {
        HexWorkbench zero = Due.game(3, 1, 0, 4, 2, 7);
        Due.is("won by player 0: fillings(0)", zero.fillings(0), 16);
        Due.is("won by player 0: fillings(1)", zero.fillings(1), 0);
        Due.is("won by player 0: weight(3)", zero.weight(3), 0);
        Due.is("won by player 0: dead()", zero.dead(), Due.set(3, 5, 6, 8));
        HexWorkbench one = Due.game(3, 0, 3, 1, 4, 8, 5);
        Due.is("won by player 1: fillings(0)", one.fillings(0), 0);
        Due.is("won by player 1: fillings(1)", one.fillings(1), 8);
        Due.is("won by player 1: dead()", one.dead(), Due.set(2, 6, 7));
    }

    /** One object goes from the empty board to the full one and back: nothing is left of the position before. */
    static void fillingsOfOnePositionAfterAnother() {
        HexWorkbench x = Due.game(4, movesUntil(12));
        for (int empty = 11; empty >= 0; empty--) {
            x.play(FILLS_4_ROWS[15 - empty]);
            dueAsReference(x, empty);
        }
        for (int empty = 1; empty <= 12; empty++) {
            x.takeBack();
            dueAsReference(x, empty);
        }
    }

    private static void dueAsReference(HexWorkbench x, int empty) {
        Reference y = Due.reference(4, movesUntil(empty));
        Due.is(empty + " empty cells: fillings(0)", x.fillings(0), y.fillings(0));
        Due.is(empty + " empty cells: fillings(1)", x.fillings(1), y.fillings(1));
        Due.is(empty + " empty cells: weight(9)", x.weight(9), y.weight(9));
        Due.is(empty + " empty cells: dead()", x.dead(), y.dead());
    }

    // ---- promise 23

    static void fillingsNeedAPlayer() {
        for (int player : Due.NOT_0_OR_1) {
            Due.is("fillings(" + player + ")", Due.game(2).fillings(player), Due.BAD_INDEX);
            Due.is("fillings(" + player + ") with 25 empty cells", Due.game(5).fillings(player), Due.BAD_INDEX);
        }
    }

    static void fillingsNeedAtMost12EmptyCells() {
        HexWorkbench x = Due.game(4, movesUntil(13));
        Due.is("13 empty cells: fillings(0)", x.fillings(0), Due.NOT_POSSIBLE);
        Due.is("13 empty cells: fillings(1)", x.fillings(1), Due.NOT_POSSIBLE);
        x.play(FILLS_4_ROWS[3]);
        Due.is("12 empty cells: fillings(0)", x.fillings(0), Due.reference(4, movesUntil(12)).fillings(0));
        Due.is("12 empty cells: fillings(1)", x.fillings(1), Due.reference(4, movesUntil(12)).fillings(1));
        HexWorkbench swapped = Due.game(4, 5, Due.SWAP, 0, 10);
        Due.is("four moves, 13 empty cells", swapped.fillings(0), Due.NOT_POSSIBLE);
        Due.is("49 empty cells", Due.game(7).fillings(0), Due.NOT_POSSIBLE);
        HexWorkbench won = Due.game(5, 0, 1, 5, 2, 10, 3, 15, 4, 20);
        Due.is("16 empty cells, when won", won.fillings(0), Due.NOT_POSSIBLE);
    }

    static void fillingsOfAFullBoard() {
        HexWorkbench full = Due.game(4, movesUntil(0));
        int winner = full.winner();
        Due.is("winner()", winner, 1);
        Due.is("who has won", full.fillings(winner), 1);
        Due.is("who has not", full.fillings(1 - winner), 0);
    }

    // ---- promise 24

    static void weightNeedsAnEmptyCell() {
        HexWorkbench x = Due.game(2, 1);
        for (int cell : new int[] {-1, 4, 5, 64, MIN, MAX}) {
            Due.is("weight(" + cell + "), no cell", x.weight(cell), Due.BAD_INDEX);
        }
        Due.is("a stone of player 0", x.weight(1), Due.BAD_INDEX);
        x.play(2);
        Due.is("a stone of player 1", x.weight(2), Due.BAD_INDEX);
        HexWorkbench full = Due.game(2, 0, 1, 3, 2);
        for (int cell = 0; cell < 4; cell++) {
            Due.is("a full board: weight(" + cell + ")", full.weight(cell), Due.BAD_INDEX);
        }
    }

    static void weightNeedsAtMost12EmptyCells() {
        HexWorkbench x = Due.game(4, movesUntil(13));
        Due.is("13 empty cells", x.weight(15), Due.NOT_POSSIBLE);
        Due.is("13 empty cells, and no cell", x.weight(16), Due.BAD_INDEX);
        Due.is("13 empty cells, and no cell", x.weight(-1), Due.BAD_INDEX);
        Due.is("13 empty cells, and a stone", x.weight(5), Due.BAD_INDEX);
        Due.is("13 empty cells, and a stone of player 1", x.weight(0), Due.BAD_INDEX);
        x.play(15);
        Due.is("12 empty cells, the lowest", x.weight(1), Due.reference(4, movesUntil(12)).weight(1));
        Due.is("12 empty cells, the highest", x.weight(14), Due.reference(4, movesUntil(12)).weight(14));
    }

    // ---- promise 25

    static void deadNeedsAtMost12EmptyCells() {
        HexWorkbench x = Due.game(4, movesUntil(13));
        Due.is("13 empty cells", x.dead(), Due.NOT_POSSIBLE);
        x.play(FILLS_4_ROWS[3]);
        Due.is("12 empty cells", x.dead(), Due.reference(4, movesUntil(12)).dead());
        Due.is("25 empty cells", Due.game(5).dead(), Due.NOT_POSSIBLE);
        HexWorkbench won = Due.game(5, 0, 1, 5, 2, 10, 3, 15, 4, 20);
        Due.is("16 empty cells, when won", won.dead(), Due.NOT_POSSIBLE);
    }

    static void deadOfAFullBoardIs0() {
        Due.is("a full board of 2 rows", Due.game(2, 0, 1, 3, 2).dead(), 0);
        Due.is("a full board of 4 rows", Due.game(4, movesUntil(0)).dead(), 0);
    }
}
