/** The document's section "Board": each test stands for a sentence (see src/test/sentences.txt). */
final class BoardBoundsTest {
    public static void main(String[] args) throws Exception {
        Due.runAll(BoardBoundsTest.class);
    }

    static void rowsFrom2To7AtFirst5() {
        HexWorkbench x = new HexWorkbench();
        Due.is("rows() at first", x.rows(), 5);
        Due.is("begin(1)", x.begin(1), Due.BAD_VALUE);
        Due.is("rows() after begin(1)", x.rows(), 5);
        Due.is("begin(8)", x.begin(8), Due.BAD_VALUE);
        Due.is("rows() after begin(8)", x.rows(), 5);
        Due.is("begin(2)", x.begin(2), 5);
        Due.is("rows(), the fewest", x.rows(), 2);
        Due.is("begin(7)", x.begin(7), 2);
        Due.is("rows(), the most", x.rows(), 7);
        Due.is("the last cell of 7 rows", x.play(48), 0);
        Due.is("a cell behind it", x.play(49), Due.BAD_INDEX);
    }

    /** The document's six places beside a cell, without those that are off the board. */
    private static long besideByRowsAndColumns(int n, int cell) {
        int[][] steps = {{0, -1}, {0, 1}, {-1, 0}, {1, 0}, {-1, 1}, {1, -1}};
        long set = 0;
        for (int[] step : steps) {
            int row = cell / n + step[0];
            int column = cell % n + step[1];
            if (row >= 0 && row < n && column >= 0 && column < n) {
                set |= 1L << (row * n + column);
            }
        }
        return set;
    }

    static void cellsBesideEndAtTheBoard() {
        for (int n = 2; n <= 7; n++) {
            HexWorkbench x = Due.game(n);
            for (int cell = 0; cell < n * n; cell++) {
                Due.is(n + " rows: beside(" + cell + ")", x.beside(cell), besideByRowsAndColumns(n, cell));
            }
        }
        Due.is("5 rows: the right end of row 0 is not beside row 1", Due.game(5).beside(4), Due.set(3, 8, 9));
        Due.is("5 rows: the left end of row 1 is not beside row 0's end", Due.game(5).beside(5),
                Due.set(0, 1, 6, 10));
        Due.is("2 rows: the upper left corner", Due.game(2).beside(0), Due.set(1, 2));
        Due.is("2 rows: the lower right corner", Due.game(2).beside(3), Due.set(1, 2));
    }

    static void setsHoldCellsAboveBit31() {
        HexWorkbench x = Due.game(7, 31, 32, 48, 0);
        Due.is("stones(0) of cells 31 and 48", x.stones(0), 1L << 31 | 1L << 48);
        Due.is("stones(1) of cells 0 and 32", x.stones(1), 1L << 32 | 1L);
        Due.is("chain(31)", x.chain(31), 1L << 31);
        Due.is("chain(48)", x.chain(48), 1L << 48);
        Due.is("beside(40)", x.beside(40), 1L << 33 | 1L << 34 | 1L << 39 | 1L << 41 | 1L << 46 | 1L << 47);
        Due.is("strength with cells 41 and 47 around 48", x.strength(0, 48, 47, 1L << 47), 1);
        Due.is("a stone at bit 48 in the region", x.strength(0, -1, -2, 1L << 48), Due.BAD_VALUE);
        Due.is("bit 16, which is 48 less 32, is empty", x.strength(0, -1, -2, 1L << 16), 0);
    }

    /** A game in which player 0 takes the first cells and player 1 the second ones, in turns. */
    private static HexWorkbench inTurns(int n, int[] zero, int[] one) {
        int[] moves = new int[zero.length + one.length];
        for (int i = 0; i < moves.length; i++) {
            moves[i] = i % 2 == 0 ? zero[i / 2] : one[i / 2];
        }
        return Due.game(n, moves);
    }

    private static int[] line(int first, int step, int count) {
        int[] cells = new int[count];
        for (int i = 0; i < count; i++) {
            cells[i] = first + i * step;
        }
        return cells;
    }

    static void playersConnectTheirOwnEdges() {
        for (int n = 2; n <= 7; n++) {
            HexWorkbench column = inTurns(n, line(0, n, n), line(1, n, n - 1));
            Due.is(n + " rows: player 0 with column 0", column.winner(), 0);
            HexWorkbench row = inTurns(n, line(n, 1, n), line(0, 1, n));
            Due.is(n + " rows: player 1 with row 0", row.winner(), 1);
            HexWorkbench wrongWay = inTurns(n, line(0, 1, n), line(n, n, n - 1));
            Due.is(n + " rows: player 0 with row 0 has not won", wrongWay.winner(), Due.NONE);
            Due.is(n + " rows: player 0's distance then", wrongWay.distance(0), n - 1);
        }
        HexWorkbench one = inTurns(3, line(0, 3, 2), line(2, 3, 2));
        one.play(7);
        Due.is("player 1 with column 2, before the last stone", one.winner(), Due.NONE);
        one.play(8);
        Due.is("player 1 with column 2 has not won", one.winner(), Due.NONE);
    }

    static void cornersTouchTwoEdges() {
        for (int n = 2; n <= 7; n++) {
            HexWorkbench x = Due.game(n);
            for (int cell = 0; cell < n * n; cell++) {
                boolean[] touches = {cell / n == 0, cell / n == n - 1, cell % n == 0, cell % n == n - 1};
                for (int edge = -1; edge >= -4; edge--) {
                    Due.is(n + " rows: cell " + cell + " and edge " + edge,
                            x.strength(0, cell, edge, 1L << cell), touches[-1 - edge] ? 1 : 0);
                }
            }
        }
        HexWorkbench x = Due.game(4);
        Due.is("cell 0 joins the upper and the left edge", x.strength(0, -1, -3, Due.set(0)), 1);
        Due.is("cell 3 joins the upper and the right edge", x.strength(1, -1, -4, Due.set(3)), 1);
        Due.is("cell 12 joins the lower and the left edge", x.strength(0, -2, -3, Due.set(12)), 1);
        Due.is("cell 15 joins the lower and the right edge", x.strength(1, -2, -4, Due.set(15)), 1);
        Due.is("cell 0 does not join the upper and the right edge", x.strength(0, -1, -4, Due.set(0)), 0);
    }

    static void wonAsSoonAsTheSequenceIsThere() {
        for (int n = 2; n <= 7; n++) {
            for (int column = 0; column < n; column++) {
                int other = column == 0 ? n - 1 : 0;
                HexWorkbench x = inTurns(n, line(column, n, n - 1), line(other, n, n - 1));
                Due.is(n + " rows: one stone too few", x.winner(), Due.NONE);
                Due.is("the last stone", x.play((n - 1) * n + column), 2 * n - 2);
                Due.is(n + " rows: column " + column, x.winner(), 0);
            }
            HexWorkbench slanting = inTurns(n, line(n - 1, n - 1, n), line(0, n, n - 1));
            Due.is(n + " rows: from the upper right to the lower left", slanting.winner(), 0);
            HexWorkbench straight = inTurns(n, line(0, n + 1, n), line(n, n, n - 1));
            Due.is(n + " rows: from the upper left to the lower right, not beside each other",
                    straight.winner(), Due.NONE);
        }
        HexWorkbench late = Due.game(3, 0, 1, 6, 2);
        Due.is("both edges, the middle open", late.winner(), Due.NONE);
        late.play(3);
        Due.is("the middle closed last", late.winner(), 0);
        HexWorkbench around = Due.game(4, 0, 3, 1, 4, 2, 7, 15, 8);
        Due.is("3, 4 and 7, 8: rows do not go on in the next one", around.winner(), Due.NONE);
    }

    /** All boards of three rows with five stones of player 0: one player reaches both edges, and wins. */
    static void fullBoardsHaveOneWinner() {
        for (int filling = 0; filling < 1 << 9; filling++) {
            boolean zero = reaches(3, filling, 0);
            boolean one = reaches(3, ~filling & 511, 1);
            Due.holds("filling " + filling + " has one winner", zero != one);
            if (Integer.bitCount(filling) == 5) {
                Due.is("the winner of filling " + filling, winnerOfGame(filling), zero ? 0 : 1);
            }
        }
        HexWorkbench full = Due.game(2, 0, 1, 3, 2);
        Due.is("all cells have stones", full.stones(0) | full.stones(1), 15);
        Due.is("winner() of a full board", full.winner(), 1);
        Due.is("distance(1) of a full board", full.distance(1), 0);
        Due.is("distance(0) of a full board", full.distance(0), Due.NONE);
    }

    private static boolean reaches(int n, int stones, int player) {
        long reached = 0;
        for (int cell = 0; cell < n * n; cell++) {
            boolean first = player == 0 ? cell / n == 0 : cell % n == 0;
            reached |= first ? stones & 1L << cell : 0;
        }
        for (int round = 0; round < n * n; round++) {
            for (int cell = 0; cell < n * n; cell++) {
                if ((reached >> cell & 1) != 0) {
                    reached |= besideByRowsAndColumns(n, cell) & stones;
                }
            }
        }
        boolean found = false;
        for (int cell = 0; cell < n * n; cell++) {
            boolean last = player == 0 ? cell / n == n - 1 : cell % n == n - 1;
            found |= last && (reached >> cell & 1) != 0;
        }
        return found;
    }

    /** Plays the stones of the filling, the lowest ones first, until somebody has won. */
    private static int winnerOfGame(int filling) {
        int[] left = {filling, ~filling & 511};
        HexWorkbench x = Due.game(3);
        for (int i = 0; i < 9 && x.winner() == Due.NONE; i++) {
            int cell = Integer.numberOfTrailingZeros(left[i % 2]);
            Due.is("play(" + cell + ")", x.play(cell), i);
            left[i % 2] &= ~(1 << cell);
        }
        return x.winner();
    }
}
