/** Promises 13 to 22: cells beside each other, chains, distances, cuts, bridges and answers. */
final class ConnectionsTest {
    public static void main(String[] args) {
        besideCells();
        chains();
        distancesOnEmptyBoards();
        distances();
        noConnection();
        cuts();
        bridges();
        bridgesThatAreNone();
        manyBridges();
        answers();
        wrongPlayers();
        Due.end();
    }

    private static void besideCells() {
        HexWorkbench x = Due.game(3);
        Due.is("beside(4)", x.beside(4), Due.set(1, 2, 3, 5, 6, 7));
        Due.is("beside(0)", x.beside(0), Due.set(1, 3));
        Due.is("beside(2)", x.beside(2), Due.set(1, 4, 5));
        Due.is("beside(6)", x.beside(6), Due.set(3, 4, 7));
        Due.is("beside(8)", x.beside(8), Due.set(5, 7));
        Due.is("beside(3)", x.beside(3), Due.set(0, 1, 4, 6));
        Due.is("beside(5)", x.beside(5), Due.set(2, 4, 7, 8));
        Due.is("beside(9)", x.beside(9), -11);
        Due.is("beside(-1)", x.beside(-1), -11);
        HexWorkbench small = Due.game(2);
        Due.is("beside(1) of 2 rows", small.beside(1), Due.set(0, 2, 3));
        Due.is("beside(3) of 2 rows", small.beside(3), Due.set(1, 2));
        HexWorkbench large = Due.game(7, 24);
        Due.is("beside(24) of 7 rows, with a stone", large.beside(24), Due.set(17, 18, 23, 25, 30, 31));
        Due.is("beside(48) of 7 rows", large.beside(48), Due.set(41, 47));
        Due.is("beside(42) of 7 rows", large.beside(42), Due.set(35, 36, 43));
        Due.is("beside(49) of 7 rows", large.beside(49), -11);
    }

    private static void chains() {
        HexWorkbench x = Due.game(4, 5, 3, 8, 4, 2, 7, 15);
        Due.is("chains(0)", x.chains(0), 2);
        Due.is("chains(1)", x.chains(1), 2);
        Due.is("chainOf(8)", x.chainOf(8), 2);
        Due.is("chainOf(2)", x.chainOf(2), 2);
        Due.is("chainOf(7)", x.chainOf(7), 3);
        Due.is("chainOf(4): rows do not go on in the next one", x.chainOf(4), 4);
        Due.is("chainOf(15)", x.chainOf(15), 15);
        Due.is("chainOf(0)", x.chainOf(0), -15);
        Due.is("chainOf(16)", x.chainOf(16), -11);
        Due.is("chainOf(-1)", x.chainOf(-1), -11);
        Due.is("chain(2)", x.chain(2), Due.set(2, 5, 8));
        Due.is("chain(3)", x.chain(3), Due.set(3, 7));
        Due.is("chain(4)", x.chain(4), Due.set(4));
        Due.is("chain(5), not the lowest cell", x.chain(5), -11);
        Due.is("chain(0), an empty cell", x.chain(0), -11);
        Due.is("chain(16)", x.chain(16), -11);
        Due.is("chain(-15)", x.chain(-15), -11);
        HexWorkbench none = Due.game(4);
        Due.is("chains(0) without stones", none.chains(0), 0);
        Due.is("chain(0) without stones", none.chain(0), -11);
    }

    private static void distancesOnEmptyBoards() {
        for (int rows = 2; rows <= 7; rows++) {
            HexWorkbench x = Due.game(rows);
            long all = (1L << rows * rows) - 1;
            for (int player = 0; player < 2; player++) {
                Due.is("distance on an empty board", x.distance(player), rows);
                Due.is("cut on an empty board", x.cut(player), rows);
                Due.is("shortest on an empty board", x.shortest(player), all);
            }
        }
    }

    private static void distances() {
        HexWorkbench x = Due.game(3, 4);
        Due.is("distance(0)", x.distance(0), 2);
        Due.is("distance(1)", x.distance(1), 3);
        Due.is("shortest(0)", x.shortest(0), Due.set(1, 2, 6, 7));
        Due.is("shortest(1) goes around", x.shortest(1), Due.set(0, 1, 2, 3, 5, 6, 7, 8));
        x.play(1);
        Due.is("shortest(0)", x.shortest(0), Due.set(2, 6, 7));
        Due.is("distance(1)", x.distance(1), 2);
        Due.is("shortest(1)", x.shortest(1), Due.set(0, 2, 3));
        x.play(6);
        x.play(2);
        Due.is("distance(0) around", x.distance(0), 2);
        Due.is("shortest(0) around", x.shortest(0), Due.set(0, 3));
        HexWorkbench detour = Due.game(3, 0, 3, 8, 6);
        Due.is("distance(1)", detour.distance(1), 2);
        Due.is("shortest(1), with stones along the edge", detour.shortest(1), Due.set(1, 2, 4, 5, 7));
    }

    private static void noConnection() {
        HexWorkbench x = Due.game(2, 0, 1, 2);
        Due.is("distance(0) when won", x.distance(0), 0);
        Due.is("shortest(0) when won", x.shortest(0), 0);
        Due.is("cut(0) when won", x.cut(0), -15);
        Due.is("distance(1) when lost", x.distance(1), -15);
        Due.is("shortest(1) when lost", x.shortest(1), -15);
        Due.is("cut(1) when lost", x.cut(1), 0);
    }

    private static void cuts() {
        HexWorkbench x = Due.game(5, 12, 0, 7, 1, 2);
        Due.is("cut(0)", x.cut(0), 5);
        Due.is("cut(1)", x.cut(1), 2);
        HexWorkbench one = Due.game(2, 0, 1);
        Due.is("cut(0) of one cell", one.cut(0), 1);
        Due.is("cut(1) of one cell", one.cut(1), 1);
    }

    private static void bridges() {
        HexWorkbench x = Due.game(4, 5, 0, 12);
        Due.is("bridges(0)", x.bridges(0), 1);
        Due.is("bridges(1)", x.bridges(1), 0);
        Due.is("bridge(0, 0, 0)", x.bridge(0, 0, 0), 5);
        Due.is("bridge(0, 0, 1)", x.bridge(0, 0, 1), 12);
        Due.is("bridge(0, 0, 2)", x.bridge(0, 0, 2), 8);
        Due.is("bridge(0, 0, 3)", x.bridge(0, 0, 3), 9);
        Due.is("bridge(0, 0, 4)", x.bridge(0, 0, 4), -12);
        Due.is("bridge(0, 0, -1)", x.bridge(0, 0, -1), -12);
        Due.is("bridge(0, 1, 0)", x.bridge(0, 1, 0), -11);
        Due.is("bridge(0, 1, 4)", x.bridge(0, 1, 4), -11);
        Due.is("bridge(0, -1, 0)", x.bridge(0, -1, 0), -11);
        Due.is("bridge(0, max, 0)", x.bridge(0, Integer.MAX_VALUE, 0), -11);
        Due.is("bridge(1, 0, 0)", x.bridge(1, 0, 0), -11);
        Due.is("bridge(2, 0, 0)", x.bridge(2, 0, 0), -11);
        Due.is("bridge(-1, 0, 0)", x.bridge(-1, 0, 0), -11);
        x.play(9);
        Due.is("bridges(0) with a stone in the carrier", x.bridges(0), 0);
        x.play(8);
        Due.is("bridges(0) with both cells taken", x.bridges(0), 0);
    }

    private static void bridgesThatAreNone() {
        HexWorkbench straight = Due.game(5, 10, 0, 12);
        Due.is("bridges(0): one cell in common is too few", straight.bridges(0), 0);
        HexWorkbench near = Due.game(5, 11, 0, 12);
        Due.is("bridges(0): beside each other, with two cells in common", near.bridges(0), 0);
        HexWorkbench edge = Due.game(5, 4, 20, 8);
        Due.is("bridges(0): beside each other at the edge", edge.bridges(0), 0);
        HexWorkbench own = Due.game(5, 6, 0, 12, 1, 7);
        Due.is("bridges(0): an own stone in the carrier", own.bridges(0), 0);
    }

    /** All six directions around the middle, and their order. */
    private static void manyBridges() {
        HexWorkbench x = Due.game(7, 24, 0, 16, 1, 19, 7, 11, 6, 32, 41, 29, 42, 37, 48);
        Due.is("moves()", x.moves(), 14);
        Due.is("bridge(0, 0, 0)", x.bridge(0, 0, 0), 11);
        Due.is("bridge(0, 0, 1)", x.bridge(0, 0, 1), 16);
        int found = x.bridges(0);
        int latest = -1;
        int ofMiddle = 0;
        for (int i = 0; i < found; i++) {
            int order = x.bridge(0, i, 0) * 64 + x.bridge(0, i, 1);
            Due.holds("bridges are in ascending order", order > latest);
            latest = order;
            if (x.bridge(0, i, 0) == 24 || x.bridge(0, i, 1) == 24) {
                ofMiddle++;
            }
        }
        Due.is("bridges of the middle", ofMiddle, 6);
        Due.is("the carrier of the bridge from 11 to 24", carrier(x, 11, 24), Due.set(17, 18));
        Due.is("the carrier of the bridge from 16 to 24", carrier(x, 16, 24), Due.set(17, 23));
        Due.is("the carrier of the bridge from 19 to 24", carrier(x, 19, 24), Due.set(18, 25));
        Due.is("the carrier of the bridge from 24 to 29", carrier(x, 24, 29), Due.set(23, 30));
        Due.is("the carrier of the bridge from 24 to 32", carrier(x, 24, 32), Due.set(25, 31));
        Due.is("the carrier of the bridge from 24 to 37", carrier(x, 24, 37), Due.set(30, 31));
    }

    private static long carrier(HexWorkbench x, int low, int high) {
        for (int i = 0; i < x.bridges(0); i++) {
            if (x.bridge(0, i, 0) == low && x.bridge(0, i, 1) == high) {
                return Due.set(x.bridge(0, i, 2), x.bridge(0, i, 3));
            }
        }
        return 0;
    }

    private static void answers() {
        HexWorkbench x = Due.game(4, 5, 0, 12);
        Due.is("answers() to the own player's move", x.answers(), 0);
        x.play(8);
        Due.is("answers() to 8", x.answers(), Due.set(9));
        x.takeBack();
        Due.is("answers() after takeBack()", x.answers(), 0);
        x.play(9);
        Due.is("answers() to 9", x.answers(), Due.set(8));
        x.play(1);
        Due.is("answers() to a move elsewhere", x.answers(), 0);
        HexWorkbench two = Due.game(5, 12, 0, 6, 1, 9, 7);
        Due.is("answers() to 7, in the carriers of 6 and 12", two.answers(), Due.set(11));
        HexWorkbench both = Due.game(5, 12, 0, 6, 1, 4, 7);
        Due.is("answers() to 7, one bridge", both.answers(), Due.set(11));
        HexWorkbench cross = Due.game(7, 24, 0, 16, 1, 11, 17);
        Due.is("answers() to 17, three bridges", cross.answers(), Due.set(10, 18, 23));
        Due.is("answers() of no moves", Due.game(5).answers(), 0);
        Due.is("answers() to the first move", Due.game(5, 3).answers(), 0);
        Due.is("answers() to a swap", Due.game(5, 3, HexWorkbench.SWAP).answers(), 0);
    }

    private static void wrongPlayers() {
        HexWorkbench x = Due.game(4, 5);
        for (int wrong : new int[] {-1, 2, Integer.MIN_VALUE, Integer.MAX_VALUE}) {
            Due.is("chains(" + wrong + ")", x.chains(wrong), -11);
            Due.is("distance(" + wrong + ")", x.distance(wrong), -11);
            Due.is("shortest(" + wrong + ")", x.shortest(wrong), -11);
            Due.is("cut(" + wrong + ")", x.cut(wrong), -11);
            Due.is("bridges(" + wrong + ")", x.bridges(wrong), -11);
            Due.is("bridge(" + wrong + ", 0, 0)", x.bridge(wrong, 0, 0), -11);
        }
    }
}
