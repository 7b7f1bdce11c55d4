/** Promises 26 to 29: solving. */
final class SolvingTest {
    public static void main(String[] args) {
        twoRows();
        threeRows();
        afterSwap();
        won();
        limits();
        openings();
        lateLosses();
        Due.end();
    }

    private static void twoRows() {
        HexWorkbench x = Due.game(2);
        Due.is("solve()", x.solve(), 0);
        Due.is("winningMoves()", x.winningMoves(), Due.set(1, 2));
        Due.is("duration()", x.duration(), 3);
        x.play(0);
        Due.is("solve() after a bad move", x.solve(), 1);
        Due.is("winningMoves()", x.winningMoves(), Due.set(2));
        Due.is("duration()", x.duration(), 3);
        x.play(1);
        Due.is("solve()", x.solve(), 0);
        Due.is("winningMoves()", x.winningMoves(), Due.set(2));
        Due.is("duration()", x.duration(), 1);
        Due.is("solving plays nothing", x.moves(), 2);
    }

    private static void threeRows() {
        HexWorkbench x = Due.game(3);
        Due.is("solve()", x.solve(), 0);
        Due.is("winningMoves()", x.winningMoves(), Due.set(2, 3, 4, 5, 6));
        Due.is("duration()", x.duration(), 5);
        x.play(4);
        Due.is("winningMoves() of who loses", x.winningMoves(), 0);
        Due.is("solve()", x.solve(), 0);
        Due.is("duration()", x.duration(), 4);
    }

    /** After a swap the turn does not follow from the number of stones. */
    private static void afterSwap() {
        HexWorkbench x = Due.game(2, 1, HexWorkbench.SWAP);
        Due.is("stones(1)", x.stones(1), Due.set(2));
        Due.is("turn()", x.turn(), 0);
        Due.is("solve()", x.solve(), 1);
        Due.is("winningMoves()", x.winningMoves(), 0);
        Due.is("duration()", x.duration(), 2);
        x.takeBack();
        Due.is("solve() without the swap", x.solve(), 0);
        Due.is("winningMoves() has no swap", x.winningMoves(), 0);
        Due.is("duration() without the swap", x.duration(), 2);
    }

    private static void won() {
        HexWorkbench x = Due.game(3, 1, 0, 4, 2, 7);
        Due.is("solve() when won", x.solve(), 0);
        Due.is("winningMoves() when won", x.winningMoves(), 0);
        Due.is("duration() when won", x.duration(), 0);
        HexWorkbench y = Due.game(3, 0, 3, 1, 4, 8, 5);
        Due.is("solve() when player 1 has won", y.solve(), 1);
        Due.is("winningMoves() when player 1 has won", y.winningMoves(), 0);
        Due.is("duration() when player 1 has won", y.duration(), 0);
        HexWorkbench full = Due.game(2, 0, 1, 3, 2);
        Due.is("solve() of a full board", full.solve(), 1);
        Due.is("duration() of a full board", full.duration(), 0);
        Due.is("winningMoves() of a full board", full.winningMoves(), 0);
    }

    private static void limits() {
        HexWorkbench x = Due.game(4, 5, 0, 10, 15, 3, 12);
        Due.is("solve(), 10 empty", x.solve(), -13);
        Due.is("winningMoves(), 10 empty", x.winningMoves(), -13);
        Due.is("duration(), 10 empty", x.duration(), -13);
        x.play(1);
        Reference y = new Reference();
        y.begin(4);
        for (int cell : new int[] {5, 0, 10, 15, 3, 12, 1}) {
            y.play(cell);
        }
        Due.is("solve(), 9 empty", x.solve(), y.solve());
        Due.is("winningMoves(), 9 empty", x.winningMoves(), y.winningMoves());
        Due.is("duration(), 9 empty", x.duration(), y.duration());
        HexWorkbench won = Due.game(5, 0, 1, 5, 2, 10, 3, 15, 4, 20);
        Due.is("solve() when won, 16 empty", won.solve(), -13);
        Due.is("winningMoves() when won, 16 empty", won.winningMoves(), -13);
        Due.is("duration() when won, 16 empty", won.duration(), -13);
    }

    private static void openings() {
        HexWorkbench x = Due.game(7, 3, 8, 24);
        Due.is("winningOpenings(2)", x.winningOpenings(2), Due.set(1, 2));
        Due.is("winningOpenings(3)", x.winningOpenings(3), Due.set(2, 3, 4, 5, 6));
        for (int wrong : new int[] {1, 4, 0, -1, 7, Integer.MIN_VALUE, Integer.MAX_VALUE}) {
            Due.is("winningOpenings(" + wrong + ")", x.winningOpenings(wrong), -12);
        }
        Due.is("rows() stay", x.rows(), 7);
        Due.is("moves() stay", x.moves(), 3);
        HexWorkbench small = Due.game(2, 1, 0, 2);
        Due.is("winningOpenings(3) when won", small.winningOpenings(3), Due.set(2, 3, 4, 5, 6));
        Due.is("solve() after it", small.solve(), 0);
    }

    /** Every game on three rows from these openings on, as the reference solves it. */
    private static void lateLosses() {
        for (int first = 0; first < 9; first++) {
            for (int second = 0; second < 9; second++) {
                HexWorkbench x = new HexWorkbench();
                Reference y = new Reference();
                x.begin(3);
                y.begin(3);
                x.play(first);
                y.play(first);
                if (first == second) {
                    x.swap();
                    y.swap();
                } else {
                    x.play(second);
                    y.play(second);
                }
                String at = " after " + first + " and " + second;
                Due.is("solve()" + at, x.solve(), y.solve());
                Due.is("winningMoves()" + at, x.winningMoves(), y.winningMoves());
                Due.is("duration()" + at, x.duration(), y.duration());
            }
        }
    }
}
