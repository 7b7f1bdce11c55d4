/** The sections "Chains", "Distances" and "Bridges" and promises 13 to 22: each test stands for a sentence. */
final class ConnectionBoundsTest {
    private static final int MIN = Integer.MIN_VALUE;
    private static final int MAX = Integer.MAX_VALUE;

    public static void main(String[] args) throws Exception {
        Due.runAll(ConnectionBoundsTest.class);
    }

    // ---- the section "Chains"

    static void chainsAreMaximal() {
        HexWorkbench x = Due.game(5, 6, 24, 16);
        Due.is("two stones apart", x.chains(0), 2);
        Due.is("chain(6)", x.chain(6), Due.set(6));
        x.play(23);
        x.play(11);
        Due.is("joined by a third one", x.chains(0), 1);
        Due.is("chain(6)", x.chain(6), Due.set(6, 11, 16));
        x.play(20);
        x.takeBack();
        x.takeBack();
        Due.is("apart again", x.chains(0), 2);
        HexWorkbench between = Due.game(5, 5, 6, 7);
        Due.is("not through the other player's stones", between.chains(0), 2);
        HexWorkbench ends = Due.game(5, 4, 24, 5);
        Due.is("the end of row 0 and the begin of row 1", ends.chains(0), 2);
        HexWorkbench straight = Due.game(5, 6, 24, 12);
        Due.is("(1, 1) and (2, 2) are not beside each other", straight.chains(0), 2);
        HexWorkbench slanting = Due.game(5, 8, 24, 12);
        Due.is("(1, 3) and (2, 2) are", slanting.chains(0), 1);
    }

    /** A chain that winds over the largest board, so that its ends are far from each other. */
    static void chainsMayBeLong() {
        int[] own = {0, 1, 2, 3, 4, 5, 6, 13, 20, 19, 18, 17, 16, 15, 14, 28, 29, 30, 31, 32, 33, 34};
        HexWorkbench x = Due.game(7);
        int[] other = {7, 8, 9, 10, 11, 21, 22, 23, 24, 25, 26, 36, 37, 38, 39, 40, 44, 45, 46, 47, 48};
        for (int i = 0; i < own.length; i++) {
            Due.is("play(" + own[i] + ")", x.play(own[i]), 2 * i);
            if (i < other.length) {
                Due.is("play(" + other[i] + ")", x.play(other[i]), 2 * i + 1);
            }
        }
        Due.is("chainOf(14), the far end", x.chainOf(14), 0);
        Due.is("chain(0)", x.chain(0), Due.range(0, 6) | Due.range(13, 20));
        Due.is("chain(28), beside none of it", x.chain(28), Due.range(28, 34));
        Due.is("chains(0)", x.chains(0), 2);
    }

    static void chainsHaveTheirLowestCellAsNumber() {
        HexWorkbench x = Due.game(5, 12, 0, 8, 1, 4);
        Due.is("chainOf(12)", x.chainOf(12), 4);
        Due.is("chainOf(8)", x.chainOf(8), 4);
        Due.is("chainOf(4)", x.chainOf(4), 4);
        Due.is("chain(4)", x.chain(4), Due.set(4, 8, 12));
        Due.is("chain(8), not the lowest cell", x.chain(8), Due.BAD_INDEX);
        Due.is("chain(12), not the lowest cell", x.chain(12), Due.BAD_INDEX);
        Due.is("chainOf(1) of player 1", x.chainOf(1), 0);
    }

    // ---- the section "Distances"

    static void connectionsAvoidTheOtherPlayer() {
        HexWorkbench x = Due.game(3, 0, 4, 1, 3);
        Due.is("distance(0) past the other stones", x.distance(0), 3);
        Due.is("shortest(0) past the other stones", x.shortest(0), Due.set(2, 5, 7, 8));
        HexWorkbench ends = Due.game(4, 3, 0, 4, 15);
        Due.is("cells 3 and 4 are not beside each other", ends.distance(0), 3);
        HexWorkbench diagonal = Due.game(2, 0, 1, 3);
        Due.is("distance(0) with one cell left", diagonal.distance(0), 1);
        Due.is("shortest(0) with one cell left", diagonal.shortest(0), Due.set(2));
    }

    static void lengthsCountEmptyCellsOnly() {
        HexWorkbench x = Due.game(5, 0, 4, 5, 9, 10, 14, 15, 19);
        Due.is("distance(0), four own stones", x.distance(0), 1);
        Due.is("distance(1), stones along one edge", x.distance(1), 4);
        x.play(20);
        Due.is("distance(0), five own stones", x.distance(0), 0);
        HexWorkbench detour = Due.game(5, 4, 0, 8, 1, 12, 2, 11, 24, 10, 23, 15, 22);
        Due.is("six own stones count for nothing", detour.distance(0), 1);
        Due.is("the empty cell behind them", detour.shortest(0), Due.set(20));
    }

    static void distancesFrom0ToRowsOrNone() {
        for (int n = 2; n <= 7; n++) {
            HexWorkbench x = Due.game(n);
            Due.is(n + " rows, empty: distance(0)", x.distance(0), n);
            Due.is(n + " rows, empty: distance(1)", x.distance(1), n);
        }
        HexWorkbench won = Due.game(2, 0, 1, 2);
        Due.is("distance(0) when won", won.distance(0), 0);
        Due.is("distance(1) when lost", won.distance(1), Due.NONE);
        won.takeBack();
        Due.is("distance(0) before", won.distance(0), 1);
        Due.is("distance(1) before", won.distance(1), 1);
    }

    static void shortestConnectionsAreAllOfThem() {
        for (int n = 2; n <= 7; n++) {
            HexWorkbench x = Due.game(n);
            Due.is(n + " rows, empty: shortest(0)", x.shortest(0), (1L << n * n) - 1);
            Due.is(n + " rows, empty: shortest(1)", x.shortest(1), (1L << n * n) - 1);
        }
        HexWorkbench two = Due.game(3, 4);
        Due.is("two ways up and two ways down", two.shortest(0), Due.set(1, 2, 6, 7));
        HexWorkbench one = Due.game(2, 0, 3);
        Due.is("the only cell of each", one.shortest(0), Due.set(2));
        Due.is("the only cell of each", one.shortest(1), Due.set(2));
    }

    static void cutsFrom0ToRowsOrNone() {
        for (int n = 2; n <= 7; n++) {
            HexWorkbench x = Due.game(n);
            Due.is(n + " rows, empty: cut(0)", x.cut(0), n);
            Due.is(n + " rows, empty: cut(1)", x.cut(1), n);
        }
        HexWorkbench won = Due.game(2, 0, 1, 2);
        Due.is("cut(0) when won", won.cut(0), Due.NONE);
        Due.is("cut(1) when lost", won.cut(1), 0);
        won.takeBack();
        Due.is("cut(0) before", won.cut(0), 1);
        Due.is("cut(1) before", won.cut(1), 1);
        HexWorkbench full = Due.game(2, 0, 1, 3, 2);
        Due.is("cut(1) of a full board", full.cut(1), Due.NONE);
        Due.is("cut(0) of a full board", full.cut(0), 0);
        HexWorkbench wide = Due.game(4, 9);
        Due.is("cut(0) with one stone in the middle", wide.cut(0), Due.reference(4, 9).cut(0));
        Due.is("cut(1) with one stone of the other player", wide.cut(1), Due.reference(4, 9).cut(1));
    }

    // ---- the section "Bridges"

    private static boolean besideEachOther(HexWorkbench x, int a, int b) {
        return (x.beside(a) >>> b & 1) != 0;
    }

    /** All pairs of cells of the boards of 2 to 7 rows, with a stone of player 1 away from both. */
    static void bridgesHaveExactlyTwoCellsInCommon() {
        HexWorkbench x = new HexWorkbench();
        for (int n = 2; n <= 7; n++) {
            for (int low = 0; low < n * n; low++) {
                x = new HexWorkbench();
                for (int high = low + 1; high < n * n; high++) {
                    x.begin(n);
                    long common = x.beside(low) & x.beside(high);
                    boolean bridge = Long.bitCount(common) == 2 && !besideEachOther(x, low, high);
                    x.play(low);
                    int away = Long.numberOfTrailingZeros(~(common | 1L << low | 1L << high));
                    if (away >= n * n) {
                        continue;
                    }
                    x.play(away);
                    x.play(high);
                    Due.is(n + " rows: bridges(0) of " + low + " and " + high, x.bridges(0), bridge ? 1 : 0);
                }
            }
        }
    }

    static void bridgesHaveAnEmptyCarrier() {
        HexWorkbench x = Due.game(4, 5, 0, 12);
        Due.is("both empty", x.bridges(0), 1);
        x.play(8);
        Due.is("a stone of the other player on the lower one", x.bridges(0), 0);
        x.takeBack();
        x.play(9);
        Due.is("a stone of the other player on the higher one", x.bridges(0), 0);
        x.takeBack();
        Due.is("both empty again", x.bridges(0), 1);
        x.play(3);
        x.play(8);
        Due.is("an own stone on the lower one", x.bridges(0), 0);
        x.takeBack();
        x.play(9);
        Due.is("an own stone on the higher one", x.bridges(0), 0);
    }

    static void bridgesHaveStonesOfOnePlayer() {
        HexWorkbench x = Due.game(4, 5, 12);
        Due.is("stones of both players: bridges(0)", x.bridges(0), 0);
        Due.is("stones of both players: bridges(1)", x.bridges(1), 0);
        HexWorkbench one = Due.game(4, 0, 5, 3, 12);
        Due.is("bridges(1)", one.bridges(1), 1);
        Due.is("bridges(0)", one.bridges(0), 0);
        HexWorkbench near = Due.game(5, 11, 0, 12);
        Due.is("beside each other, with two cells in common", near.bridges(0), 0);
    }

    static void bridgesAreInAscendingOrder() {
        HexWorkbench x = Due.game(5, 21, 0, 12, 1);
        Due.is("bridges(0)", x.bridges(0), 1);
        Due.is("the stones are ordered, not their moves", x.bridge(0, 0, 0), 12);
        Due.is("the higher one", x.bridge(0, 0, 1), 21);
        HexWorkbench same = Due.game(5, 12, 0, 21, 1, 18, 4, 6);
        Due.is("bridges(0)", same.bridges(0), 4);
        int[][] due = {{6, 12, 7, 11}, {12, 18, 13, 17}, {12, 21, 16, 17}, {18, 21, 17, 22}};
        for (int i = 0; i < due.length; i++) {
            for (int what = 0; what < 4; what++) {
                Due.is("bridge(0, " + i + ", " + what + ")", same.bridge(0, i, what), due[i][what]);
            }
        }
    }

    static void answersAreInTheCarrierBefore() {
        HexWorkbench x = Due.game(4, 5, 0, 12, 8);
        Due.is("in the carrier", x.answers(), Due.set(9));
        x.play(3);
        Due.is("a later move elsewhere", x.answers(), 0);
        x.play(9);
        Due.is("the carrier was not empty any more", x.answers(), 0);
        HexWorkbench own = Due.game(4, 5, 0, 12, 1, 8);
        Due.is("in the carrier of the own bridge", own.answers(), 0);
        HexWorkbench made = Due.game(4, 5, 0, 12);
        Due.is("a move that makes a bridge", made.answers(), 0);
        HexWorkbench first = Due.game(4, 5);
        Due.is("the first move", first.answers(), 0);
        first.swap();
        Due.is("a swap", first.answers(), 0);
        HexWorkbench zero = Due.game(4, 0, 5, 3, 12, 9);
        Due.is("player 0 in a carrier of player 1", zero.answers(), Due.set(8));
        zero.takeBack();
        Due.is("the move before", zero.answers(), 0);
        zero.again();
        Due.is("made again", zero.answers(), Due.set(8));
    }

    // ---- promise 13

    static void besideNeedsACell() {
        for (int n = 2; n <= 7; n++) {
            HexWorkbench x = Due.game(n);
            for (int cell : new int[] {-1, n * n, n * n + 1, 64, -64, MIN, MAX}) {
                Due.is(n + " rows: beside(" + cell + ")", x.beside(cell), Due.BAD_INDEX);
            }
        }
    }

    static void besideIsTheSameWithStones() {
        HexWorkbench x = Due.game(2, 0, 1, 2);
        Due.is("beside(0)", x.beside(0), Due.set(1, 2));
        Due.is("beside(1)", x.beside(1), Due.set(0, 2, 3));
        Due.is("beside(3)", x.beside(3), Due.set(1, 2));
    }

    // ---- promises 14 to 16

    static void chainsNeedAPlayer() {
        HexWorkbench x = Due.game(4, 5);
        for (int player : Due.NOT_0_OR_1) {
            Due.is("chains(" + player + ")", x.chains(player), Due.BAD_INDEX);
        }
    }

    static void chainsFrom0On() {
        HexWorkbench x = Due.game(3);
        Due.is("no stones of player 0", x.chains(0), 0);
        Due.is("no stones of player 1", x.chains(1), 0);
        x.play(0);
        Due.is("one stone", x.chains(0), 1);
        Due.is("still none", x.chains(1), 0);
        HexWorkbench full = Due.game(2, 0, 1, 3, 2);
        Due.is("a full board: chains(0)", full.chains(0), 2);
        Due.is("a full board: chains(1)", full.chains(1), 1);
        HexWorkbench many = Due.game(7, 0, 1, 2, 3, 4, 5, 6, 14, 15, 16, 17, 18, 19, 20, 28, 29, 30, 31, 32, 33, 34);
        Due.is("single stones: chains(0)", many.chains(0), 11);
        Due.is("single stones: chains(1)", many.chains(1), 10);
    }

    static void chainOfNeedsACell() {
        HexWorkbench x = Due.game(3, 0);
        for (int cell : new int[] {-1, 9, 10, 64, MIN, MAX}) {
            Due.is("chainOf(" + cell + ")", x.chainOf(cell), Due.BAD_INDEX);
        }
    }

    static void chainOfAnEmptyCellIsNone() {
        HexWorkbench x = Due.game(3, 0);
        for (int cell = 1; cell < 9; cell++) {
            Due.is("chainOf(" + cell + ")", x.chainOf(cell), Due.NONE);
        }
        Due.is("chainOf(0)", x.chainOf(0), 0);
        x.takeBack();
        Due.is("chainOf(0) when it is taken back", x.chainOf(0), Due.NONE);
        HexWorkbench last = Due.game(7, 48);
        Due.is("chainOf(48), the last cell", last.chainOf(48), 48);
    }

    static void chainNeedsTheNumberOfAChain() {
        HexWorkbench x = Due.game(3, 1, 8, 2);
        for (int chain : new int[] {-1, 9, 64, MIN, MAX, Due.NONE}) {
            Due.is("chain(" + chain + "), no cell", x.chain(chain), Due.BAD_INDEX);
        }
        Due.is("an empty cell", x.chain(0), Due.BAD_INDEX);
        Due.is("an empty cell beside a chain", x.chain(4), Due.BAD_INDEX);
        Due.is("a stone that is not the lowest one", x.chain(2), Due.BAD_INDEX);
    }

    static void chainOfEitherPlayer() {
        HexWorkbench x = Due.game(3, 1, 8, 2);
        Due.is("player 0's", x.chain(1), Due.set(1, 2));
        Due.is("player 1's, on the last cell", x.chain(8), Due.set(8));
        HexWorkbench y = Due.game(3, 0);
        Due.is("on the first cell", y.chain(0), Due.set(0));
    }

    // ---- promises 17 to 19

    static void distanceNeedsAPlayer() {
        HexWorkbench x = Due.game(2, 0, 1, 2);
        for (int player : Due.NOT_0_OR_1) {
            Due.is("distance(" + player + ")", x.distance(player), Due.BAD_INDEX);
        }
    }

    static void distanceOfAFullBoard() {
        HexWorkbench x = Due.game(2, 0, 1, 3, 2);
        Due.is("distance(1), who has won", x.distance(1), 0);
        Due.is("distance(0), who has no connection", x.distance(0), Due.NONE);
    }

    static void shortestNeedsAPlayer() {
        HexWorkbench x = Due.game(2, 0, 1, 2);
        for (int player : Due.NOT_0_OR_1) {
            Due.is("shortest(" + player + ")", x.shortest(player), Due.BAD_INDEX);
        }
    }

    static void shortestIs0WhenWonAndNoneWhenLost() {
        HexWorkbench x = Due.game(2, 0, 1, 2);
        Due.is("shortest(0), who has won", x.shortest(0), 0);
        Due.is("shortest(1), who has no connection", x.shortest(1), Due.NONE);
        HexWorkbench y = Due.game(3, 0, 3, 1, 4, 8, 5);
        Due.is("shortest(1), who has won", y.shortest(1), 0);
        Due.is("shortest(0), who has no connection", y.shortest(0), Due.NONE);
        HexWorkbench large = Due.game(7);
        large.play(24);
        Due.is("shortest(0) has no cell with a stone", large.shortest(0) & Due.set(24), 0);
    }

    static void cutNeedsAPlayer() {
        HexWorkbench x = Due.game(2, 0, 1, 2);
        for (int player : Due.NOT_0_OR_1) {
            Due.is("cut(" + player + ")", x.cut(player), Due.BAD_INDEX);
        }
    }

    static void cutIsNoneOnlyForWhoHasWon() {
        HexWorkbench x = Due.game(3, 0, 3, 1, 4, 8, 5);
        Due.is("cut(1), who has won", x.cut(1), Due.NONE);
        Due.is("cut(0), who has lost", x.cut(0), 0);
        x.takeBack();
        Due.is("cut(1) before", x.cut(1), Due.reference(3, 0, 3, 1, 4, 8).cut(1));
        Due.is("cut(0) before", x.cut(0), 1);
    }

    // ---- promises 20 to 22

    static void bridgesNeedAPlayer() {
        HexWorkbench x = Due.game(4, 5, 0, 12);
        for (int player : Due.NOT_0_OR_1) {
            Due.is("bridges(" + player + ")", x.bridges(player), Due.BAD_INDEX);
        }
    }

    static void bridgesFrom0On() {
        HexWorkbench x = Due.game(4);
        Due.is("no stones", x.bridges(0), 0);
        x.play(5);
        Due.is("one stone", x.bridges(0), 0);
        HexWorkbench full = Due.game(2, 0, 1, 3, 2);
        Due.is("a full board", full.bridges(0), 0);
        HexWorkbench corners = Due.game(2, 0, Due.SWAP, 1);
        Due.is("two rows", corners.bridges(1), 0);
        HexWorkbench smallest = Due.game(3, 0, 8, 4);
        Due.is("the corner and the middle", smallest.bridges(0), 1);
    }

    /** Player 0 has every third cell of five rows, so that each one has bridges on all sides. */
    static void bridgesOfManyStones() {
        int[] moves = {0, 35, 3, 36, 6, 37, 8, 39, 11, 40, 16, 41, 19, 42, 21, 43, 24, 44, 27, 46, 29, 47, 32};
        HexWorkbench x = Due.game(7, moves);
        Reference y = Due.reference(7, moves);
        Due.is("bridges(0)", x.bridges(0), y.bridges(0));
        Due.is("there are more than stones", y.bridges(0), 21);
        for (int i = 0; i <= y.bridges(0); i++) {
            for (int what = 0; what < 4; what++) {
                Due.is("bridge(0, " + i + ", " + what + ")", x.bridge(0, i, what), y.bridge(0, i, what));
            }
        }
    }

    static void bridgeNeedsAPlayer() {
        HexWorkbench x = Due.game(4, 5, 0, 12);
        for (int player : Due.NOT_0_OR_1) {
            Due.is("bridge(" + player + ", 0, 0)", x.bridge(player, 0, 0), Due.BAD_INDEX);
            Due.is("bridge(" + player + ", 0, 4)", x.bridge(player, 0, 4), Due.BAD_INDEX);
        }
    }

    static void bridgeNeedsTheNumberOfABridge() {
        HexWorkbench x = Due.game(4, 5, 0, 12);
        for (int bridge : new int[] {-1, 1, 2, 147, 1000, MIN, MAX}) {
            Due.is("bridge(0, " + bridge + ", 0)", x.bridge(0, bridge, 0), Due.BAD_INDEX);
        }
        Due.is("player 1 has none", x.bridge(1, 0, 0), Due.BAD_INDEX);
        x.play(8);
        Due.is("the bridge is no more", x.bridge(0, 0, 0), Due.BAD_INDEX);
    }

    static void bridgeHasFourCells() {
        HexWorkbench x = Due.game(4, 12, 0, 5);
        Due.is("what 0", x.bridge(0, 0, 0), 5);
        Due.is("what 1", x.bridge(0, 0, 1), 12);
        Due.is("what 2", x.bridge(0, 0, 2), 8);
        Due.is("what 3", x.bridge(0, 0, 3), 9);
        for (int what : new int[] {-1, 4, 5, MIN, MAX}) {
            Due.is("what " + what, x.bridge(0, 0, what), Due.BAD_VALUE);
        }
    }

    static void bridgeChecksTheBridgeFirst() {
        HexWorkbench x = Due.game(4, 5, 0, 12);
        Due.is("no player, no bridge, wrong what", x.bridge(2, 1, 4), Due.BAD_INDEX);
        Due.is("no bridge, wrong what", x.bridge(0, 1, 4), Due.BAD_INDEX);
        Due.is("no bridge, wrong what", x.bridge(0, -1, -1), Due.BAD_INDEX);
        Due.is("a bridge, wrong what", x.bridge(0, 0, -1), Due.BAD_VALUE);
    }

    static void answersAre0IfThereAreNone() {
        Due.is("no moves", Due.game(5).answers(), 0);
        Due.is("one move", Due.game(5, 12).answers(), 0);
        Due.is("a move in no carrier", Due.game(4, 5, 0, 12, 15).answers(), 0);
        HexWorkbench won = Due.game(2, 0, 1, 2);
        Due.is("a winning move", won.answers(), 0);
        HexWorkbench x = Due.game(4, 5, 0, 12, 8);
        x.begin(4);
        Due.is("after begin", x.answers(), 0);
    }

    static void answersAreAllOfThem() {
        HexWorkbench two = Due.game(7, 24, 0, 16, 1, 11, 17);
        Due.is("three carriers have 17", two.answers(), Due.set(10, 18, 23));
        HexWorkbench won = Due.game(3, 1, 3, 5, 7, 0, 8, 6, 4);
        Due.is("winner()", won.winner(), 1);
        Due.is("a winning move in a carrier", won.answers(), Due.set(2));
        Due.is("a move at the edge is in no carrier with the edge", Due.game(4, 9, 12).answers(), 0);
    }
}
