/** Promises 23 to 25: fillings, weights and dead cells. */
final class FillingsTest {
    public static void main(String[] args) {
        twoRows();
        wonAlready();
        fullBoard();
        limits();
        sums();
        Due.end();
    }

    /** Player 0 wins on two rows with 0 and 2, 1 and 2, or 1 and 3. */
    private static void twoRows() {
        HexWorkbench x = Due.game(2);
        Due.is("fillings(0)", x.fillings(0), 8);
        Due.is("fillings(1)", x.fillings(1), 8);
        Due.is("weight(0)", x.weight(0), 2);
        Due.is("weight(1)", x.weight(1), 4);
        Due.is("weight(2)", x.weight(2), 4);
        Due.is("weight(3)", x.weight(3), 2);
        Due.is("dead()", x.dead(), 0);
        x.play(1);
        Due.is("fillings(0)", x.fillings(0), 6);
        Due.is("fillings(1)", x.fillings(1), 2);
        Due.is("weight(0)", x.weight(0), 0);
        Due.is("weight(2)", x.weight(2), 2);
        Due.is("weight(3)", x.weight(3), 2);
        Due.is("weight(1), not empty", x.weight(1), -11);
        Due.is("dead()", x.dead(), Due.set(0));
    }

    private static void wonAlready() {
        HexWorkbench x = Due.game(3, 1, 0, 4, 2, 7);
        Due.is("winner()", x.winner(), 0);
        Due.is("fillings(0) when won", x.fillings(0), 16);
        Due.is("fillings(1) when won", x.fillings(1), 0);
        Due.is("weight(3) when won", x.weight(3), 0);
        Due.is("dead() when won", x.dead(), Due.set(3, 5, 6, 8));
    }

    private static void fullBoard() {
        HexWorkbench x = Due.game(2, 0, 1, 3, 2);
        Due.is("winner()", x.winner(), 1);
        Due.is("fillings(0) of a full board", x.fillings(0), 0);
        Due.is("fillings(1) of a full board", x.fillings(1), 1);
        Due.is("dead() of a full board", x.dead(), 0);
        Due.is("weight(0) of a full board", x.weight(0), -11);
    }

    private static void limits() {
        HexWorkbench x = Due.game(4, 5, 0, 10);
        Due.is("fillings(0), 13 empty", x.fillings(0), -13);
        Due.is("fillings(2), 13 empty", x.fillings(2), -11);
        Due.is("fillings(-1), 13 empty", x.fillings(-1), -11);
        Due.is("weight(1), 13 empty", x.weight(1), -13);
        Due.is("weight(5), 13 empty", x.weight(5), -11);
        Due.is("weight(16), 13 empty", x.weight(16), -11);
        Due.is("weight(-1), 13 empty", x.weight(-1), -11);
        Due.is("dead(), 13 empty", x.dead(), -13);
        x.play(15);
        Reference y = new Reference();
        y.begin(4);
        y.play(5);
        y.play(0);
        y.play(10);
        y.play(15);
        Due.is("fillings(0), 12 empty", x.fillings(0), y.fillings(0));
        Due.is("fillings(1), 12 empty", x.fillings(1), y.fillings(1));
        Due.is("weight(1), 12 empty", x.weight(1), y.weight(1));
        Due.is("weight(14), 12 empty", x.weight(14), y.weight(14));
        Due.is("dead(), 12 empty", x.dead(), y.dead());
        Due.is("fillings(2), 12 empty", x.fillings(2), -11);
        Due.is("weight(15), 12 empty", x.weight(15), -11);
        HexWorkbench won = Due.game(5, 0, 1, 5, 2, 10, 3, 15, 4, 20);
        Due.is("fillings(0) when won, 16 empty", won.fillings(0), -13);
        Due.is("dead() when won, 16 empty", won.dead(), -13);
    }

    private static void sums() {
        HexWorkbench x = Due.game(3);
        Due.is("fillings(0) of 3 rows", x.fillings(0), 256);
        Due.is("fillings(1) of 3 rows", x.fillings(1), 256);
        Due.is("weights are mirrored", x.weight(1), x.weight(3));
        Due.is("weights are mirrored", x.weight(2), x.weight(2));
        Due.is("the stones stay", x.stones(0) | x.stones(1), 0);
    }
}
