/** Promises 1 to 12: a new object, and the calls that play a game. */
final class GamesTest {
    public static void main(String[] args) {
        newObject();
        beginning();
        playing();
        swapping();
        takingBack();
        winning();
        longestGame();
        Due.end();
    }

    private static void newObject() {
        HexWorkbench x = new HexWorkbench();
        Due.is("new: rows()", x.rows(), 5);
        Due.is("new: moves()", x.moves(), 0);
        Due.is("new: moveAt(0)", x.moveAt(0), -11);
        Due.is("new: turn()", x.turn(), 0);
        Due.is("new: winner()", x.winner(), -15);
        Due.is("new: stones(0)", x.stones(0), 0);
        Due.is("new: stones(1)", x.stones(1), 0);
        Due.is("new: takeBack()", x.takeBack(), -13);
        Due.is("new: again()", x.again(), -13);
        Due.is("new: swap()", x.swap(), -13);
        Due.is("new: clearThreats()", x.clearThreats(), 0);
        Due.is("new: clearText()", x.clearText(), 0);
        Due.is("new: restore(0)", x.restore(0), -13);
        Due.is("new: restore(1)", x.restore(1), -13);
    }

    private static void beginning() {
        HexWorkbench x = new HexWorkbench();
        int before = 5;
        for (int rows = 2; rows <= 7; rows++) {
            Due.is("begin(" + rows + ")", x.begin(rows), before);
            Due.is("rows()", x.rows(), rows);
            Due.is("play(last)", x.play(rows * rows - 1), 0);
            Due.is("play(behind last)", x.play(rows * rows), -11);
            before = rows;
        }
        x.takeBack();
        x.append('a');
        x.save(0);
        for (int wrong : new int[] {1, 8, 0, -1, Integer.MIN_VALUE, Integer.MAX_VALUE}) {
            Due.is("begin(" + wrong + ")", x.begin(wrong), -12);
        }
        Due.is("again() is left by a wrong begin", x.again(), 0);
        x.takeBack();
        Due.is("begin(7)", x.begin(7), 7);
        Due.is("again() after begin", x.again(), -13);
        Due.is("moves() after begin", x.moves(), 0);
        Due.is("stones(0) after begin", x.stones(0), 0);
        Due.is("restore(0): slots are left by begin", x.restore(0), 0);
        Due.is("clearText(): the text is left by begin", x.clearText(), 1);
        HexWorkbench y = new HexWorkbench();
        y.begin(2);
        Due.is("addThreat(0, 14)", y.addThreat(0, 14), 1);
        Due.is("begin(9)", y.begin(9), -12);
        Due.is("threats(0) after a wrong begin", y.threats(0), 1);
        y.begin(2);
        Due.is("clearThreats() after begin", y.clearThreats(), 0);
    }

    private static void playing() {
        HexWorkbench x = Due.game(3, 4, 0);
        Due.is("stones(0)", x.stones(0), Due.set(4));
        Due.is("stones(1)", x.stones(1), Due.set(0));
        Due.is("turn()", x.turn(), 0);
        Due.is("moveAt(0)", x.moveAt(0), 4);
        Due.is("moveAt(1)", x.moveAt(1), 0);
        Due.is("moveAt(2)", x.moveAt(2), -11);
        Due.is("moveAt(-1)", x.moveAt(-1), -11);
        Due.is("moveAt(min)", x.moveAt(Integer.MIN_VALUE), -11);
        Due.is("play(4) on an own stone", x.play(4), -13);
        Due.is("play(0) on another stone", x.play(0), -13);
        Due.is("play(-1)", x.play(-1), -11);
        Due.is("play(9)", x.play(9), -11);
        Due.is("play(64)", x.play(64), -11);
        Due.is("play(min)", x.play(Integer.MIN_VALUE), -11);
        Due.is("moves() after wrong calls", x.moves(), 2);
        Due.is("play(8)", x.play(8), 2);
        Due.is("turn()", x.turn(), 1);
        Due.is("stones(0)", x.stones(0), Due.set(4, 8));
        Due.is("stones(2)", x.stones(2), -11);
        Due.is("stones(-1)", x.stones(-1), -11);
    }

    private static void swapping() {
        HexWorkbench x = Due.game(3, 1);
        Due.is("swap()", x.swap(), 3);
        Due.is("stones(0)", x.stones(0), 0);
        Due.is("stones(1)", x.stones(1), Due.set(3));
        Due.is("moves()", x.moves(), 2);
        Due.is("turn()", x.turn(), 0);
        Due.is("moveAt(0)", x.moveAt(0), 1);
        Due.is("moveAt(1)", x.moveAt(1), -16);
        Due.is("swap() again", x.swap(), -13);
        Due.is("play(3)", x.play(3), -13);
        Due.is("play(1) on the cell left", x.play(1), 2);
        Due.is("takeBack()", x.takeBack(), 2);
        Due.is("takeBack() of the swap", x.takeBack(), 1);
        Due.is("stones(0)", x.stones(0), Due.set(1));
        Due.is("stones(1)", x.stones(1), 0);
        Due.is("again() of the swap", x.again(), 1);
        Due.is("stones(1)", x.stones(1), Due.set(3));
        Due.is("again()", x.again(), 2);
        Due.is("again() at the end", x.again(), -13);
        HexWorkbench y = Due.game(7, 20);
        Due.is("swap() of row 2, column 6", y.swap(), 44);
        HexWorkbench z = Due.game(4, 7, 8);
        z.takeBack();
        Due.is("swap() in place of a move", z.swap(), 13);
        Due.is("again() after another move", z.again(), -13);
    }

    private static void takingBack() {
        HexWorkbench x = Due.game(5, 12, 7, 3);
        Due.is("takeBack()", x.takeBack(), 2);
        Due.is("moveAt(2) of a move taken back", x.moveAt(2), -11);
        Due.is("takeBack()", x.takeBack(), 1);
        Due.is("stones(1)", x.stones(1), 0);
        Due.is("stones(0)", x.stones(0), Due.set(12));
        Due.is("play(12) in vain", x.play(12), -13);
        Due.is("play(99) in vain", x.play(99), -11);
        Due.is("again()", x.again(), 1);
        Due.is("moveAt(1)", x.moveAt(1), 7);
        Due.is("swap() in vain", x.swap(), -13);
        Due.is("again()", x.again(), 2);
        Due.is("moveAt(2)", x.moveAt(2), 3);
        Due.is("again()", x.again(), -13);
        x.takeBack();
        x.takeBack();
        Due.is("play(8)", x.play(8), 1);
        Due.is("again() after another move", x.again(), -13);
        x.takeBack();
        Due.is("takeBack() of the first", x.takeBack(), 0);
        Due.is("takeBack() of nothing", x.takeBack(), -13);
        Due.is("again()", x.again(), 0);
        Due.is("again()", x.again(), 1);
        Due.is("stones(1)", x.stones(1), Due.set(8));
    }

    private static void winning() {
        HexWorkbench x = Due.game(2, 0, 1, 2);
        Due.is("winner()", x.winner(), 0);
        Due.is("turn() when won", x.turn(), 1);
        Due.is("play(3) when won", x.play(3), -13);
        Due.is("play(4) when won", x.play(4), -11);
        Due.is("takeBack() when won", x.takeBack(), 2);
        Due.is("winner()", x.winner(), -15);
        Due.is("again()", x.again(), 2);
        Due.is("winner()", x.winner(), 0);
        HexWorkbench diagonal = Due.game(2, 1, 0, 2);
        Due.is("winner() by (0, 1) and (1, 0)", diagonal.winner(), 0);
        HexWorkbench other = Due.game(2, 0, 1, 3);
        Due.is("winner(): (0, 0) and (1, 1) are not beside each other", other.winner(), -15);
        other.play(2);
        Due.is("winner() of player 1", other.winner(), 1);
        HexWorkbench left = Due.game(3, 0, 3, 1, 4, 8, 5);
        Due.is("winner() by a row", left.winner(), 1);
        HexWorkbench wrap = Due.game(4, 0, 3, 1, 4, 2, 7, 15, 8);
        Due.is("winner(): rows do not go on in the next one", wrap.winner(), -15);
    }

    /** With a swap, the largest board takes 50 moves, if nobody wins before the last one. */
    private static void longestGame() {
        HexWorkbench x = Due.game(7, 0, HexWorkbench.SWAP, 28, 48, 41, 9, 21, 14, 43, 37, 40, 6, 39, 17,
                10, 36, 8, 30, 35, 20, 2, 33, 12, 42, 5, 16, 23, 44, 38, 29, 11, 22, 26, 46, 25, 1, 3, 45,
                27, 4, 13, 31, 34, 15, 24, 18, 32, 7, 19, 47);
        Due.is("moves() of the longest game", x.moves(), 50);
        Due.is("winner() of the longest game", x.winner(), 1);
        Due.is("moveAt(49)", x.moveAt(49), 47);
        Due.is("moveAt(50)", x.moveAt(50), -11);
        Due.is("play(0) on the full board", x.play(0), -13);
        Due.is("the stones fill the board", x.stones(0) | x.stones(1), (1L << 49) - 1);
        Due.is("save(0)", x.save(0), 50);
        Due.is("takeBack()", x.takeBack(), 49);
        Due.is("winner() before the last move", x.winner(), -15);
        Due.is("again()", x.again(), 49);
        Due.is("restore(0)", x.restore(0), 50);
    }
}
