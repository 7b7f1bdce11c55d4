/** Promises 30 to 35: regions and threats. */
final class RegionsTest {
    public static void main(String[] args) {
        strengths();
        placesThatAreCells();
        placesThatAreEdges();
        regionErrors();
        smallest();
        smallestErrors();
        addingThreats();
        neededCells();
        threatsAreCleared();
        Due.end();
    }

    private static void strengths() {
        HexWorkbench x = Due.game(4, 9);
        Due.is("a bridge to the edge", x.strength(0, 9, -2, Due.set(12, 13)), 2);
        Due.is("the places may be exchanged", x.strength(0, -2, 9, Due.set(12, 13)), 2);
        Due.is("one cell", x.strength(0, 9, -2, Due.set(13)), 1);
        Due.is("a cell elsewhere", x.strength(0, 9, -2, Due.set(3)), 0);
        Due.is("no cells", x.strength(0, 9, -2, 0), 0);
        Due.is("the other player", x.strength(1, 9, -2, Due.set(12, 13)), 0);
        Due.is("three cells, one of no use", x.strength(0, 9, -2, Due.set(12, 13, 3)), 2);
        Due.is("eight cells, two rows above", x.strength(0, 9, -1, Due.set(0, 1, 2, 3, 4, 5, 6, 7)), 1);
        x.play(13);
        Due.is("half", x.strength(0, 9, -2, Due.set(12)), 1);
        Due.is("nothing", x.strength(0, 9, -2, Due.set(14)), 0);
        x.play(12);
        Due.is("connected, with no cells", x.strength(0, 9, -2, 0), 2);
        Due.is("connected, with other cells", x.strength(0, 9, -2, Due.set(0, 1, 2)), 2);
        Due.is("strength changes nothing", x.moves(), 3);
    }

    private static void placesThatAreCells() {
        HexWorkbench x = Due.game(4, 5, 0, 12);
        Due.is("a bridge", x.strength(0, 5, 12, Due.set(8, 9)), 2);
        Due.is("half a bridge", x.strength(0, 5, 12, Due.set(8)), 1);
        Due.is("an empty place in the region", x.strength(0, 5, 8, Due.set(8)), 1);
        Due.is("an empty place not in the region", x.strength(0, 5, 8, Due.set(9)), 0);
        Due.is("two empty places", x.strength(0, 8, 9, Due.set(8, 9)), 0);
        Due.is("a place of the other player", x.strength(0, 5, 0, Due.set(1, 4)), 0);
        Due.is("an empty place beside nothing, and an edge", x.strength(0, 3, -1, Due.set(3)), 1);
        Due.is("a stone at the edge", x.strength(0, 12, -2, 0), 2);
        Due.is("a stone at another player's edge", x.strength(0, 12, -3, 0), 2);
        Due.is("stones of player 1", x.strength(1, 0, -1, 0), 2);
    }

    private static void placesThatAreEdges() {
        HexWorkbench x = Due.game(2);
        Due.is("the corner touches two edges", x.strength(0, -1, -3, Due.set(0)), 1);
        Due.is("the corner touches two edges, for player 1", x.strength(1, -2, -4, Due.set(3)), 1);
        Due.is("another corner does not", x.strength(0, -1, -3, Due.set(3)), 0);
        Due.is("player 0 moves first", x.strength(0, -1, -2, Due.set(0, 1, 2, 3)), 1);
        Due.is("player 1 moves first", x.strength(1, -3, -4, Due.set(0, 1, 2, 3)), 1);
        Due.is("player 0 between the other edges", x.strength(0, -3, -4, Due.set(0, 1, 2, 3)), 1);
        x.play(1);
        Due.is("with a stone", x.strength(0, -1, -2, Due.set(2, 3)), 2);
        Due.is("upper and right edge", x.strength(0, -1, -4, 0), 2);
        Due.is("upper and left edge", x.strength(0, -1, -3, Due.set(0, 2)), 2);
        Due.is("lower and left edge", x.strength(0, -2, -3, 0), 0);
    }

    private static void regionErrors() {
        HexWorkbench x = Due.game(4, 9);
        for (int wrong : new int[] {-1, 2, Integer.MIN_VALUE, Integer.MAX_VALUE}) {
            Due.is("strength(" + wrong + ", -1, -2, 0)", x.strength(wrong, -1, -2, 0), -11);
        }
        for (int wrong : new int[] {-5, 16, 64, Integer.MIN_VALUE, Integer.MAX_VALUE}) {
            Due.is("strength(0, " + wrong + ", -2, 0)", x.strength(0, wrong, -2, 0), -11);
            Due.is("strength(0, -1, " + wrong + ", 0)", x.strength(0, -1, wrong, 0), -11);
        }
        Due.is("the same edge", x.strength(0, -1, -1, 0), -11);
        Due.is("the same cell, a wrong region", x.strength(0, 9, 9, -1), -11);
        Due.is("a stone in the region", x.strength(0, -1, -2, Due.set(9)), -12);
        Due.is("a cell behind the board", x.strength(0, -1, -2, Due.set(16)), -12);
        Due.is("bit 63", x.strength(0, -1, -2, Long.MIN_VALUE), -12);
        Due.is("nine cells", x.strength(0, -1, -2, Due.set(0, 1, 2, 3, 4, 5, 6, 7, 8)), -12);
        Due.is("eight cells", x.strength(0, -1, -2, Due.set(0, 1, 2, 3, 4, 5, 6, 7)), 0);
        Due.is("the last places", x.strength(0, 15, -4, 0), 0);
    }

    private static void smallest() {
        HexWorkbench x = Due.game(4, 9);
        Due.is("two of three", x.smallestFull(0, 9, -2, Due.set(12, 13, 14)), 2);
        Due.is("half is not enough", x.smallestFull(0, 9, -2, Due.set(12)), -15);
        Due.is("no cells", x.smallestFull(0, 9, -2, 0), -15);
        Due.is("six cells", x.smallestFull(0, 9, -2, Due.set(0, 1, 2, 3, 12, 13)), 2);
        Due.is("to the left edge, around 8", x.smallestFull(0, 9, -3, Due.set(4, 5, 8, 12, 13)), 2);
        x.play(13);
        Due.is("the bridge and what it leads to", x.smallestFull(0, 9, -1, Due.set(1, 2, 5, 6)), -15);
        x.play(12);
        Due.is("connected", x.smallestFull(0, 9, -2, 0), 0);
        Due.is("connected, with cells", x.smallestFull(0, 9, -2, Due.set(0, 1, 2, 3, 4, 5)), 0);
        HexWorkbench y = Due.game(5, 3, 0, 12, 1, 21);
        Due.is("two bridges", y.smallestFull(0, 3, 21, Due.set(7, 8, 16, 17, 20, 24)), 4);
        Due.is("one bridge and a half", y.smallestFull(0, 3, 21, Due.set(7, 8, 16)), -15);
        HexWorkbench z = Due.game(7, 4, 0, 17, 1, 30, 2, 43);
        Due.is("three bridges", z.smallestFull(0, 4, 43, Due.set(10, 11, 23, 24, 36, 37)), 6);
    }

    private static void smallestErrors() {
        HexWorkbench x = Due.game(4, 9);
        Due.is("seven cells", x.smallestFull(0, 9, -2, Due.set(0, 1, 2, 3, 4, 5, 6)), -12);
        Due.is("a stone in the region", x.smallestFull(0, 9, -2, Due.set(9)), -12);
        Due.is("all bits", x.smallestFull(0, 9, -2, -1), -12);
        Due.is("player 2", x.smallestFull(2, 9, -2, 0), -11);
        Due.is("place -5", x.smallestFull(0, -5, -2, 0), -11);
        Due.is("place 16", x.smallestFull(0, 9, 16, 0), -11);
        Due.is("the same places, a wrong region", x.smallestFull(0, -2, -2, -1), -11);
    }

    private static void addingThreats() {
        HexWorkbench x = Due.game(2);
        Due.is("not half", x.addThreat(0, Due.set(0, 3)), -13);
        Due.is("player 2", x.addThreat(2, 14), -11);
        Due.is("player -1, a wrong region", x.addThreat(-1, -1), -11);
        Due.is("a cell behind the board", x.addThreat(0, Due.set(4)), -12);
        Due.is("half", x.addThreat(0, Due.set(1, 2, 3)), 1);
        Due.is("player 1", x.addThreat(1, Due.set(0, 1, 2)), 2);
        Due.is("threats(0)", x.threats(0), 1);
        Due.is("threats(1)", x.threats(1), 1);
        for (int i = 3; i <= 6; i++) {
            Due.is("the same once more", x.addThreat(0, Due.set(1, 2, 3)), i);
        }
        Due.is("one too many", x.addThreat(1, Due.set(0, 1, 2)), -14);
        Due.is("one too many, not half", x.addThreat(1, Due.set(0, 3)), -13);
        Due.is("one too many, a wrong region", x.addThreat(1, Due.set(5)), -12);
        Due.is("one too many, a wrong player", x.addThreat(3, Due.set(5)), -11);
        Due.is("threats(0)", x.threats(0), 5);
        Due.is("clearThreats()", x.clearThreats(), 6);
        Due.is("threats(0)", x.threats(0), 0);
        Due.is("clearThreats() of none", x.clearThreats(), 0);
        x.play(1);
        Due.is("full is half too", x.addThreat(0, Due.set(2, 3)), 1);
        Due.is("a stone in the region", x.addThreat(0, Due.set(1, 2, 3)), -12);
        HexWorkbench large = Due.game(7);
        Due.is("nine cells", large.addThreat(0, 511), -12);
        Due.is("a column", large.addThreat(0, Due.set(0, 7, 14, 21, 28, 35, 42)), -13);
        HexWorkbench won = Due.game(2, 0, 1, 2);
        Due.is("no cells, when won", won.addThreat(0, 0), 1);
        Due.is("needed(0)", won.needed(0), 0);
        Due.is("no cells, when lost", won.addThreat(1, 0), -13);
    }

    private static void neededCells() {
        HexWorkbench x = Due.game(2);
        Due.is("needed(0) of none", x.needed(0), -15);
        x.addThreat(0, Due.set(1, 2, 3));
        Due.is("needed(0) of one", x.needed(0), Due.set(1, 2, 3));
        Due.is("needed(1)", x.needed(1), -15);
        x.addThreat(0, Due.set(0, 1, 2));
        Due.is("needed(0) of two", x.needed(0), Due.set(1, 2));
        x.play(1);
        Due.is("threats(0) with an own stone", x.threats(0), 2);
        Due.is("needed(0) with an own stone", x.needed(0), Due.set(2));
        x.play(3);
        Due.is("threats(0) with another stone in one", x.threats(0), 1);
        Due.is("needed(0) with another stone in one", x.needed(0), Due.set(0, 2));
        x.takeBack();
        x.play(2);
        Due.is("threats(0) with another stone in both", x.threats(0), 0);
        Due.is("needed(0) with another stone in both", x.needed(0), -15);
        Due.is("both are kept", x.clearThreats(), 2);
        for (int wrong : new int[] {-1, 2, Integer.MIN_VALUE, Integer.MAX_VALUE}) {
            Due.is("threats(" + wrong + ")", x.threats(wrong), -11);
            Due.is("needed(" + wrong + ")", x.needed(wrong), -11);
        }
    }

    private static void threatsAreCleared() {
        HexWorkbench x = Due.game(2);
        x.addThreat(0, Due.set(1, 2, 3));
        x.play(2);
        x.swap();
        Due.is("threats(0) after a swap to cell 1", x.threats(0), 0);
        x.takeBack();
        Due.is("threats(0) after takeBack()", x.threats(0), 1);
        x.again();
        Due.is("threats(0) after again()", x.threats(0), 0);
        x.save(1);
        Due.is("save keeps them", x.clearThreats(), 1);
        x.takeBack();
        x.addThreat(1, Due.set(0, 1, 3));
        x.restore(1);
        Due.is("restore clears them", x.clearThreats(), 0);
        x.begin(2);
        x.addThreat(0, Due.set(1, 2, 3));
        x.read();
        Due.is("read clears them", x.clearThreats(), 0);
        x.addThreat(0, Due.set(1, 2, 3));
        x.append('S');
        x.read();
        x.restore(0);
        x.restore(2);
        Due.is("calls in vain keep them", x.clearThreats(), 1);
    }
}
