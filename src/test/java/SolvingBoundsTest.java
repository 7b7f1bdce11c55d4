import java.util.Arrays;
import java.util.Random;

/** The section "Solving" and promises 26 to 29: each test stands for a sentence. */
final class SolvingBoundsTest {
    public static void main(String[] args) throws Exception {
        Due.runAll(SolvingBoundsTest.class);
    }

    // ---- the section "Solving"

    /** With a swap, player 1 would win both of these positions. */
    static void noSwapsAreMade() {
        HexWorkbench two = Due.game(2, 1);
        Due.is("2 rows: solve()", two.solve(), 0);
        Due.is("2 rows: winningMoves()", two.winningMoves(), 0);
        Due.is("2 rows: duration()", two.duration(), 2);
        HexWorkbench three = Due.game(3, 4);
        Due.is("3 rows: solve()", three.solve(), 0);
        Due.is("3 rows: winningMoves()", three.winningMoves(), 0);
        Due.is("2 rows, empty: solve()", Due.game(2).solve(), 0);
        Due.is("3 rows, empty: solve()", Due.game(3).solve(), 0);
        Due.is("moves()", three.moves(), 1);
    }

    /** The same stones with different turns. */
    static void positionsDependOnTheTurn() {
        HexWorkbench zero = Due.game(2, 0, 3);
        HexWorkbench one = Due.game(2, 3, Due.SWAP, 0);
        Due.is("stones(0)", one.stones(0), zero.stones(0));
        Due.is("stones(1)", one.stones(1), zero.stones(1));
        Due.is("player 0 to move: solve()", zero.solve(), 0);
        Due.is("player 1 to move: solve()", one.solve(), 1);
        Due.is("player 0 to move: winningMoves()", zero.winningMoves(), Due.set(2));
        Due.is("player 1 to move: winningMoves()", one.winningMoves(), Due.set(2));
        HexWorkbench swapped = Due.game(2, 1, Due.SWAP);
        Due.is("an even number of moves, an odd number of stones", swapped.solve(), 1);
    }

    static void winningMovesWinAtOnceOrLater() {
        HexWorkbench atOnce = Due.game(2, 0, 3);
        Due.is("a move that wins at once", atOnce.winningMoves(), Due.set(2));
        Due.is("moves that win later", Due.game(2).winningMoves(), Due.set(1, 2));
        Due.is("moves that win later, 3 rows", Due.game(3).winningMoves(), Due.set(2, 3, 4, 5, 6));
        HexWorkbench both = Due.game(3, 4, 0, 1, 2);
        Due.is("some at once and some later", both.winningMoves(), Due.reference(3, 4, 0, 1, 2).winningMoves());
        Due.is("none of them a stone", both.winningMoves() & (both.stones(0) | both.stones(1)), 0);
        Due.is("none for who loses", Due.game(2, 1).winningMoves(), 0);
    }

    static void durationsAreEarlyForTheWinnerAndLateForTheOther() {
        HexWorkbench x = Due.game(3);
        Due.is("3 rows, empty", x.duration(), 5);
        x.play(4);
        Due.is("the loser to move", x.duration(), 4);
        HexWorkbench two = Due.game(2);
        Due.is("2 rows, empty", two.duration(), 3);
        two.play(0);
        Due.is("after a bad move", two.duration(), 3);
        two.play(2);
        Due.is("the loser to move", two.duration(), 2);
        two.play(1);
        Due.is("the last cell", two.duration(), 1);
        HexWorkbench atOnce = Due.game(2, 0, 3);
        Due.is("at once", atOnce.duration(), 1);
        HexWorkbench slow = Due.game(3, 0);
        Due.is("the longest", slow.duration(), Due.reference(3, 0).duration());
        for (int first = 0; first < 9; first++) {
            for (int second = 0; second < 9; second++) {
                if (first != second) {
                    Due.is("after " + first + " and " + second, Due.game(3, first, second).duration(),
                            Due.reference(3, first, second).duration());
                }
            }
        }
    }

    // ---- promises 26 to 28

    private static final int[] TEN_EMPTY = {5, 0, 10, 15, 3, 12};
    private static final int[] NINE_EMPTY = {5, 0, 10, 15, 3, 12, 1};

    static void solveNeedsAtMost9EmptyCells() {
        Due.is("10 empty cells", Due.game(4, TEN_EMPTY).solve(), Due.NOT_POSSIBLE);
        Due.is("9 empty cells", Due.game(4, NINE_EMPTY).solve(), Due.reference(4, NINE_EMPTY).solve());
        Due.is("9 empty cells, no stones", Due.game(3).solve(), 0);
        Due.is("49 empty cells", Due.game(7).solve(), Due.NOT_POSSIBLE);
        HexWorkbench swapped = Due.game(4, 5, Due.SWAP, 0, 10, 15, 3, 12);
        Due.is("seven moves, 10 empty cells", swapped.solve(), Due.NOT_POSSIBLE);
        swapped.play(1);
        Due.is("eight moves, 9 empty cells", swapped.solve(),
                Due.reference(4, 5, Due.SWAP, 0, 10, 15, 3, 12, 1).solve());
    }

    static void solveReturnsWhoHasWon() {
        Due.is("player 0", Due.game(3, 1, 0, 4, 2, 7).solve(), 0);
        Due.is("player 1", Due.game(3, 0, 3, 1, 4, 8, 5).solve(), 1);
        Due.is("a full board", Due.game(2, 0, 1, 3, 2).solve(), 1);
        HexWorkbench wide = Due.game(5, 0, 1, 5, 2, 10, 3, 15, 4, 20);
        Due.is("winner()", wide.winner(), 0);
        Due.is("16 empty cells, when won", wide.solve(), Due.NOT_POSSIBLE);
    }

    static void winningMovesNeedAtMost9EmptyCells() {
        Due.is("10 empty cells", Due.game(4, TEN_EMPTY).winningMoves(), Due.NOT_POSSIBLE);
        Due.is("9 empty cells", Due.game(4, NINE_EMPTY).winningMoves(),
                Due.reference(4, NINE_EMPTY).winningMoves());
        Due.is("9 empty cells, no stones", Due.game(3).winningMoves(), Due.set(2, 3, 4, 5, 6));
        HexWorkbench wide = Due.game(5, 0, 1, 5, 2, 10, 3, 15, 4, 20);
        Due.is("16 empty cells, when won", wide.winningMoves(), Due.NOT_POSSIBLE);
    }

    static void winningMovesAre0WhenWon() {
        Due.is("by player 0", Due.game(3, 1, 0, 4, 2, 7).winningMoves(), 0);
        Due.is("by player 1", Due.game(3, 0, 3, 1, 4, 8, 5).winningMoves(), 0);
        Due.is("a full board", Due.game(2, 0, 1, 3, 2).winningMoves(), 0);
        HexWorkbench swapped = Due.game(2, 0, Due.SWAP, 3, 1);
        Due.is("winner() after a swap", swapped.winner(), 1);
        Due.is("turn(), of who has lost", swapped.turn(), 0);
        Due.is("winningMoves() after a swap", swapped.winningMoves(), 0);
    }

    static void durationNeedsAtMost9EmptyCells() {
        Due.is("10 empty cells", Due.game(4, TEN_EMPTY).duration(), Due.NOT_POSSIBLE);
        Due.is("9 empty cells", Due.game(4, NINE_EMPTY).duration(), Due.reference(4, NINE_EMPTY).duration());
        Due.is("9 empty cells, no stones", Due.game(3).duration(), 5);
        HexWorkbench wide = Due.game(5, 0, 1, 5, 2, 10, 3, 15, 4, 20);
        Due.is("16 empty cells, when won", wide.duration(), Due.NOT_POSSIBLE);
    }

    static void durationIs0WhenWon() {
        Due.is("by player 0", Due.game(3, 1, 0, 4, 2, 7).duration(), 0);
        Due.is("by player 1", Due.game(3, 0, 3, 1, 4, 8, 5).duration(), 0);
        Due.is("a full board", Due.game(2, 0, 1, 3, 2).duration(), 0);
    }

    private static final int[] FILLS_4_ROWS = {5, 0, 10, 15, 8, 6, 4, 12, 1, 7, 3, 14, 11, 2, 13, 9};

    /** One object solves positions with 9 to 0 empty cells, and back: nothing is left of the one before. */
    static void solvingOnePositionAfterAnother() {
        HexWorkbench x = Due.game(4, Arrays.copyOf(FILLS_4_ROWS, 7));
        for (int moves = 7; moves <= 16; moves++) {
            dueAsReference(x, Arrays.copyOf(FILLS_4_ROWS, moves));
            x.winningOpenings(3);
            x.play(moves < 16 ? FILLS_4_ROWS[moves] : 0);
        }
        for (int moves = 15; moves >= 7; moves--) {
            x.takeBack();
            dueAsReference(x, Arrays.copyOf(FILLS_4_ROWS, moves));
        }
    }

    private static void dueAsReference(HexWorkbench x, int[] moves) {
        Reference y = Due.reference(4, moves);
        Due.is("solve() after " + moves.length + " moves", x.solve(), y.solve());
        Due.is("winningMoves() after " + moves.length + " moves", x.winningMoves(), y.winningMoves());
        Due.is("duration() after " + moves.length + " moves", x.duration(), y.duration());
    }

    /** As many empty cells as there may be, on the boards of 3 to 7 rows. */
    static void positionsWith9EmptyCells() {
        Random random = new Random(29);
        for (int i = 0; i < 45; i++) {
            int n = 3 + i % 5;
            HexWorkbench x = Due.game(n);
            Reference y = new Reference();
            y.begin(n);
            for (int tries = 0; tries < 2000 && Long.bitCount(y.emptySet()) > 9; tries++) {
                int cell = random.nextInt(n * n);
                x.play(cell);
                y.play(cell);
                if (y.winner() != Due.NONE) {
                    x.takeBack();
                    y.takeBack();
                }
            }
            String at = " of position " + i;
            Due.is("solve()" + at, x.solve(), y.solve());
            Due.is("winningMoves()" + at, x.winningMoves(), y.winningMoves());
            Due.is("duration()" + at, x.duration(), y.duration());
        }
    }

    // ---- promise 29

    static void openingsDoNotDependOnThePosition() {
        HexWorkbench[] positions = {Due.game(2), Due.game(2, 0, 1, 3, 2), Due.game(3, 4), Due.game(7, 24, 0),
            Due.game(5, 0, 1, 5, 2, 10, 3, 15, 4, 20)};
        for (HexWorkbench x : positions) {
            long before = x.checksum();
            Due.is("winningOpenings(2)", x.winningOpenings(2), Due.set(1, 2));
            Due.is("winningOpenings(3)", x.winningOpenings(3), Due.set(2, 3, 4, 5, 6));
            Due.is("checksum() stays", x.checksum(), before);
        }
        HexWorkbench solved = Due.game(2, 0, 3);
        solved.winningOpenings(3);
        Due.is("solve() after winningOpenings(3)", solved.solve(), 0);
        Due.is("duration() after winningOpenings(3)", solved.duration(), 1);
        Due.is("strength() after winningOpenings(3)", solved.strength(0, 0, -2, Due.set(2)), 1);
    }

    static void openingsTake2Or3Rows() {
        HexWorkbench x = Due.game(4);
        for (int rows : new int[] {1, 4, 0, -1, 5, 7, Integer.MIN_VALUE, Integer.MAX_VALUE}) {
            Due.is("winningOpenings(" + rows + ")", x.winningOpenings(rows), Due.BAD_VALUE);
        }
        Due.is("rows() stay", x.rows(), 4);
    }

    static void openingsArePlayer0s() {
        for (int rows = 2; rows <= 3; rows++) {
            HexWorkbench x = Due.game(rows);
            Due.is(rows + " rows, empty", x.winningOpenings(rows), x.winningMoves());
            x.play(0);
            Due.is(rows + " rows, player 1 to move", x.winningOpenings(rows),
                    Due.game(rows).winningMoves());
        }
    }
}
