/** The section "Threats" and promises 32 to 35: each test stands for a sentence. */
final class ThreatBoundsTest {
    /** On two rows, without stones, these are half for both players. */
    private static final long LOWER = Due.set(1, 2, 3);
    private static final long UPPER = Due.set(0, 1, 2);

    public static void main(String[] args) throws Exception {
        Due.runAll(ThreatBoundsTest.class);
    }

    // ---- the section "Threats"

    static void atMost6ThreatsAreKept() {
        HexWorkbench x = Due.game(2);
        for (int i = 1; i <= 6; i++) {
            Due.is("threat " + i, x.addThreat(i % 2, LOWER), i);
        }
        Due.is("threat 7", x.addThreat(0, LOWER), Due.FULL);
        Due.is("threat 7 of the other player", x.addThreat(1, UPPER), Due.FULL);
        Due.is("threats(0)", x.threats(0), 3);
        Due.is("threats(1)", x.threats(1), 3);
        Due.is("needed(1) is as before", x.needed(1), LOWER);
        Due.is("clearThreats()", x.clearThreats(), 6);
        Due.is("there is room again", x.addThreat(0, LOWER), 1);
        HexWorkbench invalid = Due.game(2);
        for (int i = 1; i <= 6; i++) {
            invalid.addThreat(0, LOWER);
        }
        invalid.play(0);
        invalid.play(1);
        Due.is("threats(0) when none is valid", invalid.threats(0), 0);
        Due.is("those that are not valid are kept too", invalid.addThreat(0, Due.set(2)), Due.FULL);
    }

    /** The first one is only seen with others behind it: each region counts, in whatever place it is. */
    static void threatsKeepPlayerAndRegion() {
        HexWorkbench x = Due.game(2);
        x.addThreat(0, LOWER);
        x.addThreat(1, UPPER);
        x.addThreat(0, UPPER);
        Due.is("threats(0)", x.threats(0), 2);
        Due.is("threats(1)", x.threats(1), 1);
        Due.is("needed(0)", x.needed(0), Due.set(1, 2));
        Due.is("needed(1)", x.needed(1), UPPER);
        x.play(2);
        x.play(3);
        Due.is("threats(0), the first one not valid", x.threats(0), 1);
        Due.is("needed(0), the first one not valid", x.needed(0), Due.set(0, 1));
        Due.is("threats(1), not valid", x.threats(1), 0);
    }

    static void regionsOfThreatsAreHalfBetweenTheOwnEdges() {
        HexWorkbench x = Due.game(2);
        Due.is("a column for player 0, both cells needed", x.addThreat(0, Due.set(0, 2)), Due.NOT_POSSIBLE);
        Due.is("a row for player 1, both cells needed", x.addThreat(1, Due.set(0, 1)), Due.NOT_POSSIBLE);
        x.play(0);
        Due.is("the lower cell for player 0", x.addThreat(0, Due.set(2)), 1);
        Due.is("the right cell does not join player 0's edges", x.addThreat(0, Due.set(1)), Due.NOT_POSSIBLE);
        x.play(3);
        Due.is("the left cell for player 1", x.addThreat(1, Due.set(2)), 2);
        Due.is("the upper cell does not join player 1's edges", x.addThreat(1, Due.set(1)), Due.NOT_POSSIBLE);
        HexWorkbench full = Due.game(2, 1);
        Due.is("full is half too", full.addThreat(0, Due.set(2, 3)), 1);
        HexWorkbench turn = Due.game(2, 0);
        Due.is("half, though the other player is to move", turn.addThreat(0, Due.set(2)), 1);
        HexWorkbench large = Due.game(4, 5, 0, 10, 15);
        Due.is("half, with 5 cells", large.addThreat(0, Due.set(1, 2, 6, 9, 14)), 1);
        Due.is("not half, with 5 cells", large.addThreat(0, Due.set(1, 2, 6, 9, 12)), Due.NOT_POSSIBLE);
    }

    static void threatsAreValidAsLongAsTheOtherIsOut() {
        HexWorkbench x = Due.game(2);
        x.addThreat(0, LOWER);
        x.addThreat(1, LOWER);
        Due.is("all cells empty", x.threats(0), 1);
        x.play(0);
        Due.is("a stone outside", x.threats(0), 1);
        x.takeBack();
        x.play(3);
        Due.is("an own stone", x.threats(0), 1);
        Due.is("a stone of the other player", x.threats(1), 0);
        x.takeBack();
        Due.is("taken back", x.threats(1), 1);
        x.again();
        Due.is("made again", x.threats(1), 0);
        x.play(1);
        Due.is("player 1 in player 0's", x.threats(0), 0);
        Due.is("threats that are not valid are kept", x.clearThreats(), 2);
        HexWorkbench swapped = Due.game(2);
        swapped.addThreat(0, Due.set(1, 2, 3));
        swapped.play(1);
        Due.is("an own stone", swapped.threats(0), 1);
        swapped.swap();
        Due.is("swapped to a stone of the other player", swapped.threats(0), 0);
        HexWorkbench all = Due.game(2, 1);
        all.addThreat(0, Due.set(2, 3));
        all.play(0);
        all.play(2);
        Due.is("a cell with an own stone, when won", all.threats(0), 1);
    }

    static void neededCellsAreEmptyAndInAllValidThreats() {
        HexWorkbench x = Due.game(2);
        x.addThreat(0, LOWER);
        Due.is("one threat", x.needed(0), LOWER);
        x.addThreat(0, UPPER);
        Due.is("two threats", x.needed(0), Due.set(1, 2));
        x.play(2);
        Due.is("an own stone is not empty", x.needed(0), Due.set(1));
        x.play(3);
        Due.is("a threat that is not valid does not count", x.needed(0), Due.set(0, 1));
        x.play(1);
        Due.is("own stones", x.needed(0), Due.set(0));
        HexWorkbench none = Due.game(2, 0, 3);
        none.addThreat(0, Due.set(2));
        none.play(2);
        Due.is("a valid threat without empty cells needs nothing", none.needed(0), 0);
        HexWorkbench apart = Due.game(3, 4);
        Due.is("above and below, on the left", apart.addThreat(0, Due.set(1, 6, 7)), 1);
        Due.is("on the right", apart.addThreat(0, Due.set(2, 6, 7)), 2);
        Due.is("below only", apart.needed(0), Due.set(6, 7));
        Due.is("with another one below", apart.addThreat(0, Due.set(1, 2, 6)), 3);
        Due.is("one cell", apart.needed(0), Due.set(6));
        Due.is("with yet another one", apart.addThreat(0, Due.set(1, 2, 7)), 4);
        Due.is("no cell is in all of them", apart.needed(0), 0);
    }

    // ---- promise 32

    static void addThreatNeedsAPlayer() {
        HexWorkbench x = Due.game(2);
        for (int player : Due.NOT_0_OR_1) {
            Due.is("player " + player, x.addThreat(player, LOWER), Due.BAD_INDEX);
            Due.is("and a wrong region", x.addThreat(player, -1), Due.BAD_INDEX);
        }
        Due.is("clearThreats()", x.clearThreats(), 0);
    }

    static void addThreatNeedsARegionOfEmptyCells() {
        HexWorkbench x = Due.game(4, 9, 0);
        for (long region : new long[] {Due.set(9), Due.set(0), Due.set(16), Due.set(63), -1L, Long.MIN_VALUE,
            Due.range(1, 8) | Due.set(12)}) {
            Due.is("region " + region, x.addThreat(0, region), Due.BAD_VALUE);
            Due.is("region " + region + " of player 1", x.addThreat(1, region), Due.BAD_VALUE);
        }
        Due.is("eight cells", x.addThreat(0, Due.set(1, 2, 4, 5, 6, 12, 13, 14)), 1);
        Due.is("nine cells", x.addThreat(0, Due.set(1, 2, 4, 5, 6, 8, 12, 13, 14)), Due.BAD_VALUE);
        Due.is("clearThreats()", x.clearThreats(), 1);
    }

    static void addThreatWithoutCells() {
        HexWorkbench x = Due.game(2, 0, 1);
        Due.is("no cells, before the win", x.addThreat(0, 0), Due.NOT_POSSIBLE);
        x.play(2);
        Due.is("no cells, when won", x.addThreat(0, 0), 1);
        Due.is("no cells, when lost", x.addThreat(1, 0), Due.NOT_POSSIBLE);
        Due.is("threats(0)", x.threats(0), 1);
        Due.is("needed(0)", x.needed(0), 0);
    }

    static void addThreatChecksInOrder() {
        HexWorkbench x = Due.game(2, 0);
        for (int i = 1; i <= 6; i++) {
            Due.is("threat " + i, x.addThreat(0, Due.set(2)), i);
        }
        Due.is("full, and nothing else", x.addThreat(0, Due.set(2)), Due.FULL);
        Due.is("full, and not half", x.addThreat(0, Due.set(1)), Due.NOT_POSSIBLE);
        Due.is("full, and a stone", x.addThreat(0, Due.set(0, 2)), Due.BAD_VALUE);
        Due.is("full, and no player", x.addThreat(2, Due.set(2)), Due.BAD_INDEX);
        Due.is("full, no player, and a stone", x.addThreat(-1, Due.set(0)), Due.BAD_INDEX);
        x.clearThreats();
        Due.is("not half, and a stone", x.addThreat(0, Due.set(0)), Due.BAD_VALUE);
        Due.is("not half, and no player", x.addThreat(2, Due.set(1)), Due.BAD_INDEX);
        Due.is("a number again", x.addThreat(0, Due.set(2)), 1);
    }

    // ---- promises 33 to 35

    static void clearThreatsRemovesAll() {
        HexWorkbench x = Due.game(2);
        x.addThreat(0, LOWER);
        x.addThreat(1, UPPER);
        x.play(3);
        x.clearThreats();
        Due.is("threats(0)", x.threats(0), 0);
        Due.is("threats(1)", x.threats(1), 0);
        Due.is("needed(0)", x.needed(0), Due.NONE);
        x.takeBack();
        Due.is("they do not come back", x.threats(0) + x.threats(1), 0);
        Due.is("the game stays", x.again(), 0);
    }

    static void clearThreatsReturnsTheirNumber() {
        HexWorkbench x = Due.game(2);
        Due.is("none", x.clearThreats(), 0);
        x.addThreat(0, LOWER);
        x.addThreat(1, UPPER);
        x.play(0);
        Due.is("one valid, one not", x.clearThreats(), 2);
        Due.is("none again", x.clearThreats(), 0);
        x.takeBack();
        for (int i = 0; i < 7; i++) {
            x.addThreat(0, LOWER);
        }
        Due.is("six", x.clearThreats(), 6);
    }

    static void threatsNeedAPlayer() {
        HexWorkbench x = Due.game(2);
        x.addThreat(0, LOWER);
        for (int player : Due.NOT_0_OR_1) {
            Due.is("threats(" + player + ")", x.threats(player), Due.BAD_INDEX);
        }
    }

    static void threatsCountTheValidOnes() {
        HexWorkbench x = Due.game(2);
        Due.is("none of player 0", x.threats(0), 0);
        Due.is("none of player 1", x.threats(1), 0);
        for (int i = 1; i <= 6; i++) {
            x.addThreat(0, i <= 2 ? LOWER : UPPER);
            Due.is("threats(0)", x.threats(0), i);
        }
        Due.is("still none of player 1", x.threats(1), 0);
        x.play(1);
        x.play(3);
        Due.is("four of six", x.threats(0), 4);
        x.takeBack();
        x.play(2);
        Due.is("none of six", x.threats(0), 0);
    }

    static void neededNeedsAPlayer() {
        HexWorkbench x = Due.game(2);
        for (int player : Due.NOT_0_OR_1) {
            Due.is("needed(" + player + "), without threats", x.needed(player), Due.BAD_INDEX);
        }
        x.addThreat(0, LOWER);
        for (int player : Due.NOT_0_OR_1) {
            Due.is("needed(" + player + ")", x.needed(player), Due.BAD_INDEX);
        }
    }

    static void neededIsNoneWithoutAValidThreat() {
        HexWorkbench x = Due.game(2);
        Due.is("no threats", x.needed(0), Due.NONE);
        x.addThreat(1, UPPER);
        Due.is("threats of the other player only", x.needed(0), Due.NONE);
        x.addThreat(0, LOWER);
        x.play(0);
        x.play(1);
        Due.is("none of them valid", x.needed(0), Due.NONE);
        x.takeBack();
        Due.is("valid again", x.needed(0), LOWER);
        x.clearThreats();
        Due.is("cleared", x.needed(0), Due.NONE);
    }
}
