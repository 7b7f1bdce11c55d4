import java.util.Random;

/** The section "Regions" and promises 30 and 31: each test stands for a sentence. */
final class RegionBoundsTest {
    private static final int MIN = Integer.MIN_VALUE;
    private static final int MAX = Integer.MAX_VALUE;

    public static void main(String[] args) throws Exception {
        Due.runAll(RegionBoundsTest.class);
    }

    // ---- the section "Regions"

    static void placesAreCellsAndFourEdges() {
        for (int n = 2; n <= 7; n++) {
            HexWorkbench x = Due.game(n);
            Due.is(n + " rows: the last cell", x.strength(0, n * n - 1, -2, 1L << (n * n - 1)), 1);
            Due.is(n + " rows: the first cell", x.strength(0, 0, -1, 1), 1);
            Due.is(n + " rows: a cell behind the last one", x.strength(0, n * n, -2, 0), Due.BAD_INDEX);
            Due.is(n + " rows: as the other place", x.strength(0, -2, n * n, 0), Due.BAD_INDEX);
            Due.is(n + " rows: place -5", x.strength(0, -5, -2, 0), Due.BAD_INDEX);
            Due.is(n + " rows: place -5 as the other one", x.strength(0, -2, -5, 0), Due.BAD_INDEX);
        }
        HexWorkbench x = Due.game(3);
        int[][] lines = {{-1, 1}, {-2, 7}, {-3, 3}, {-4, 5}};
        for (int[] line : lines) {
            for (int edge = -4; edge <= -1; edge++) {
                Due.is("cell " + line[1] + " and edge " + edge, x.strength(1, edge, line[1], 1L << line[1]),
                        edge == line[0] ? 1 : 0);
            }
        }
    }

    /** All places, players and regions on two rows, in several positions. */
    static void everyRegionOfTwoRows() {
        int[][] games = {{}, {0}, {1}, {0, 3}, {1, 2}, {1, Due.SWAP}, {0, 1, 2}, {0, 1, 3}, {0, 1, 3, 2}};
        for (int[] moves : games) {
            HexWorkbench x = Due.game(2, moves);
            Reference y = Due.reference(2, moves);
            for (int player = 0; player < 2; player++) {
                for (int from = -5; from <= 4; from++) {
                    for (int to = -5; to <= 4; to++) {
                        dueOnAllRegions(x, y, player, from, to);
                    }
                }
            }
        }
    }

    private static void dueOnAllRegions(HexWorkbench x, Reference y, int player, int from, int to) {
        for (long region = 0; region <= 16; region++) {
            String given = "(" + player + ", " + from + ", " + to + ", " + region + ") after " + y.moves() + " moves";
            Due.is("strength" + given, x.strength(player, from, to, region), y.strength(player, from, to, region));
            Due.is("smallestFull" + given, x.smallestFull(player, from, to, region),
                    y.smallestFull(player, from, to, region));
        }
    }

    static void placesDifferAndRegionsAreEmptyCells() {
        HexWorkbench x = Due.game(4, 9, 5);
        for (int place = -4; place < 16; place++) {
            Due.is("both places " + place, x.strength(0, place, place, 0), Due.BAD_INDEX);
        }
        Due.is("a stone of the player in the region", x.strength(0, 9, -2, Due.set(9, 12)), Due.BAD_VALUE);
        Due.is("a stone of the other player in the region", x.strength(0, 9, -2, Due.set(5, 12)), Due.BAD_VALUE);
        Due.is("a cell behind the board in the region", x.strength(0, 9, -2, Due.set(12, 16)), Due.BAD_VALUE);
    }

    /** The region game goes on until its cells are full, and with no cells it has ended. */
    static void regionGamesEndWhenTheRegionIsFull() {
        HexWorkbench x = Due.game(4, 9, 0, 12);
        Due.is("no cells, beside each other", x.strength(0, 9, 12, 0), 2);
        Due.is("no cells, not beside each other", x.strength(0, 9, -1, 0), 0);
        Due.is("one cell, of no use", x.strength(0, 9, 12, Due.set(3)), 2);
        HexWorkbench y = Due.game(4, 5);
        Due.is("one cell", y.strength(0, 5, -1, Due.set(1)), 1);
        Due.is("two cells, one each", y.strength(0, 5, -1, Due.set(1, 2)), 2);
        Due.is("two cells that are needed both", y.strength(0, 5, -2, Due.set(9, 13)), 0);
        Due.is("three cells, two for who moves first", y.strength(0, 5, -2, Due.set(9, 12, 13)), 1);
        Due.is("four cells", y.strength(0, 5, -2, Due.set(8, 9, 12, 13)), 1);
        Due.is("with a fifth one", y.strength(0, 5, -2, Due.set(8, 9, 12, 13, 14)),
                Due.reference(4, 5).strength(0, 5, -2, Due.set(8, 9, 12, 13, 14)));
    }

    static void oneCellMayReachBothPlaces() {
        HexWorkbench x = Due.game(2, 1);
        Due.is("a stone that touches the edge", x.strength(0, 1, -1, 0), 2);
        Due.is("a stone that touches both edges", x.strength(0, -1, -4, 0), 2);
        Due.is("not the other edges", x.strength(0, -2, -3, 0), 0);
        Due.is("two cells are two stones", x.strength(0, 1, 2, 0), 0);
        Due.is("with the second one", x.strength(0, 1, 2, Due.set(2)), 1);
    }

    static void placesWithoutAStoneConnectNothing() {
        HexWorkbench x = Due.game(4, 5, 0);
        Due.is("an empty cell that is not in the region", x.strength(0, 5, 6, 0), 0);
        Due.is("an empty cell, beside the region", x.strength(0, 5, 7, Due.set(6)), 0);
        Due.is("an empty cell in the region", x.strength(0, 5, 6, Due.set(6)), 1);
        Due.is("a stone of the other player", x.strength(0, 0, -1, 0), 0);
        Due.is("a stone of the other player, beside", x.strength(0, 0, 5, Due.set(1, 4)), 0);
        Due.is("for its own player", x.strength(1, 0, -1, 0), 2);
        Due.is("two empty cells that the players share", x.strength(0, 10, 11, Due.set(10, 11)), 0);
        Due.is("never full, since the other player takes the place", x.strength(0, 5, 6, Due.set(6, 7, 9)), 1);
    }

    static void stonesOutsideTheRegionStay() {
        HexWorkbench x = Due.game(4, 5, 0, 12);
        Due.is("a bridge", x.strength(0, 5, 12, Due.set(8, 9)), 2);
        Due.is("empty cells outside are of no use", x.strength(0, 5, 12, Due.set(8)), 1);
        Due.is("checksum() stays", x.checksum(), Due.reference(4, 5, 0, 12).checksum());
        x.play(9);
        Due.is("a stone of the other player outside", x.strength(0, 5, 12, Due.set(8)), 1);
        x.play(8);
        Due.is("an own stone outside", x.strength(0, 5, 12, 0), 2);
    }

    static void fullWhenTheOtherMovesFirstHalfWhenThePlayerDoes() {
        HexWorkbench x = Due.game(4, 9);
        Due.is("full", x.strength(0, 9, -2, Due.set(12, 13)), 2);
        Due.is("half", x.strength(0, 9, -2, Due.set(12)), 1);
        Due.is("neither", x.strength(0, 9, -2, Due.set(14)), 0);
        HexWorkbench turn = Due.game(4, 9, 0);
        Due.is("full, whatever the turn is", turn.strength(0, 9, -2, Due.set(12, 13)), 2);
        Due.is("half, whatever the turn is", turn.strength(0, 9, -2, Due.set(12)), 1);
        HexWorkbench one = Due.game(4, 0, 6);
        Due.is("full for player 1", one.strength(1, 6, -4, Due.set(7, 3)), 2);
        Due.is("half for player 1", one.strength(1, 6, -4, Due.set(7)), 1);
        Due.is("nothing for player 0", one.strength(0, 6, -4, Due.set(7, 3)), 0);
    }

    static void regionsHaveAtMost8Cells() {
        HexWorkbench x = Due.game(4, 9);
        Reference y = Due.reference(4, 9);
        Due.is("eight cells", x.strength(0, 9, -1, Due.range(0, 7)), y.strength(0, 9, -1, Due.range(0, 7)));
        Due.is("nine cells", x.strength(0, 9, -1, Due.range(0, 8)), Due.BAD_VALUE);
        Due.is("all empty cells", x.strength(0, 9, -1, 0xFFFF & ~Due.set(9)), Due.BAD_VALUE);
        HexWorkbench high = Due.game(7, 40);
        Due.is("eight cells above bit 31", high.strength(0, 40, -2, Due.set(41, 42, 43, 44, 45, 46, 47, 48)), 2);
        Due.is("nine cells above bit 31", high.strength(0, 40, -2, Due.range(41, 48) | Due.set(39)), Due.BAD_VALUE);
    }

    /** One object, regions of 8 cells and fewer one after another: nothing is left of the one before. */
    static void oneRegionAfterAnother() {
        Random random = new Random(30);
        int[] counts = new int[3];
        int[] moves = {12, 6, 8, 16};
        HexWorkbench x = Due.game(5, moves);
        Reference y = Due.reference(5, moves);
        for (int i = 0; i < 200; i++) {
            int player = random.nextInt(2);
            int from = moves[random.nextInt(2) * 2 + player];
            int to = -1 - random.nextInt(4);
            long region = 0;
            for (int tries = 0; tries < 200 && Long.bitCount(region) < 8 - i % 3; tries++) {
                region |= 1L << random.nextInt(25) & y.emptySet();
            }
            String given = "(" + player + ", " + from + ", " + to + ", " + region + ")";
            int strength = y.strength(player, from, to, region);
            counts[strength]++;
            Due.is("strength" + given, x.strength(player, from, to, region), strength);
            Due.is("smallestFull" + given, x.smallestFull(player, from, to, region),
                    y.smallestFull(player, from, to, region));
        }
        Due.holds("there are regions of all strengths", counts[0] >= 10 && counts[1] >= 10 && counts[2] >= 10);
    }

    // ---- promise 30

    static void strengthNeedsAPlayer() {
        HexWorkbench x = Due.game(4, 9);
        for (int player : Due.NOT_0_OR_1) {
            Due.is("strength(" + player + ", ..)", x.strength(player, 9, -2, Due.set(12, 13)), Due.BAD_INDEX);
            Due.is("and a wrong region", x.strength(player, 9, -2, -1), Due.BAD_INDEX);
        }
    }

    static void strengthNeedsPlaces() {
        HexWorkbench x = Due.game(4, 9);
        for (int place : new int[] {-5, 16, 17, 63, 64, -64, MIN, MAX}) {
            Due.is("from " + place, x.strength(0, place, -2, 0), Due.BAD_INDEX);
            Due.is("to " + place, x.strength(0, -2, place, 0), Due.BAD_INDEX);
            Due.is("from " + place + ", and a wrong region", x.strength(0, place, -2, -1), Due.BAD_INDEX);
        }
        Due.is("the first edge", x.strength(0, -1, 9, 0), 0);
        Due.is("the last edge", x.strength(0, -4, 9, 0), 0);
        Due.is("the first cell", x.strength(0, 0, 9, 0), 0);
        Due.is("the last cell", x.strength(0, 15, 9, 0), 0);
    }

    static void strengthNeedsAnotherPlace() {
        HexWorkbench x = Due.game(4, 9);
        Due.is("the same cell", x.strength(0, 9, 9, 0), Due.BAD_INDEX);
        Due.is("the same edge", x.strength(0, -4, -4, 0), Due.BAD_INDEX);
        Due.is("the same edge, and a wrong region", x.strength(0, -4, -4, Due.range(0, 8)), Due.BAD_INDEX);
    }

    static void strengthNeedsARegionOfEmptyCells() {
        HexWorkbench x = Due.game(4, 9, 0);
        for (long region : new long[] {Due.set(9), Due.set(0), Due.set(16), Due.set(48), Due.set(63), -1L,
            Due.range(1, 9), Long.MIN_VALUE, Long.MAX_VALUE}) {
            Due.is("region " + region, x.strength(0, -1, -2, region), Due.BAD_VALUE);
        }
        Due.is("no cells", x.strength(0, -1, -2, 0), 0);
        Due.is("the last cell", x.strength(0, -1, -2, Due.set(15)), 0);
    }

    static void strengthIs2Or1Or0() {
        HexWorkbench x = Due.game(2);
        Due.is("half and not full", x.strength(0, -1, -2, Due.range(0, 3)), 1);
        x.play(1);
        Due.is("full", x.strength(0, -1, -2, Due.set(2, 3)), 2);
        Due.is("half and not full", x.strength(0, -1, -2, Due.set(3)), 1);
        Due.is("neither", x.strength(0, -1, -2, Due.set(0)), 0);
        Due.is("neither, with no cells", x.strength(0, -1, -2, 0), 0);
        x.play(0);
        x.play(2);
        Due.is("full, with no cells", x.strength(0, -1, -2, 0), 2);
    }

    // ---- promise 31

    static void smallestFullNeedsAPlayer() {
        HexWorkbench x = Due.game(4, 9);
        for (int player : Due.NOT_0_OR_1) {
            Due.is("player " + player, x.smallestFull(player, 9, -2, Due.set(12, 13)), Due.BAD_INDEX);
            Due.is("and a wrong region", x.smallestFull(player, 9, -2, -1), Due.BAD_INDEX);
        }
    }

    static void smallestFullNeedsPlaces() {
        HexWorkbench x = Due.game(4, 9);
        for (int place : new int[] {-5, 16, 17, 63, 64, -64, MIN, MAX}) {
            Due.is("from " + place, x.smallestFull(0, place, -2, 0), Due.BAD_INDEX);
            Due.is("to " + place, x.smallestFull(0, -2, place, 0), Due.BAD_INDEX);
            Due.is("from " + place + ", and a wrong region", x.smallestFull(0, place, -2, -1), Due.BAD_INDEX);
        }
    }

    static void smallestFullNeedsAnotherPlace() {
        HexWorkbench x = Due.game(4, 9);
        Due.is("the same cell", x.smallestFull(0, 9, 9, 0), Due.BAD_INDEX);
        Due.is("the same edge", x.smallestFull(0, -1, -1, 0), Due.BAD_INDEX);
        Due.is("the same edge, and seven cells", x.smallestFull(0, -1, -1, Due.range(0, 6)), Due.BAD_INDEX);
    }

    static void smallestFullTakesAtMost6Cells() {
        HexWorkbench x = Due.game(4, 9);
        Due.is("six cells", x.smallestFull(0, 9, -2, Due.set(0, 1, 2, 3, 12, 13)), 2);
        Due.is("seven cells", x.smallestFull(0, 9, -2, Due.set(0, 1, 2, 3, 4, 12, 13)), Due.BAD_VALUE);
        Due.is("eight cells", x.smallestFull(0, 9, -2, Due.range(0, 7)), Due.BAD_VALUE);
        Due.is("nine cells", x.smallestFull(0, 9, -2, Due.range(0, 8)), Due.BAD_VALUE);
        Due.is("a stone", x.smallestFull(0, 9, -2, Due.set(9, 12, 13)), Due.BAD_VALUE);
        Due.is("a cell behind the board", x.smallestFull(0, 9, -2, Due.set(12, 13, 16)), Due.BAD_VALUE);
        Due.is("bit 63", x.smallestFull(0, 9, -2, Long.MIN_VALUE), Due.BAD_VALUE);
    }

    static void smallestFullFrom0To6OrNone() {
        HexWorkbench x = Due.game(4, 9);
        Due.is("no cells", x.smallestFull(0, 9, -2, 0), Due.NONE);
        Due.is("one cell is half", x.smallestFull(0, 9, -2, Due.set(12)), Due.NONE);
        Due.is("six cells of no use", x.smallestFull(0, 9, -2, Due.range(0, 5)), Due.NONE);
        Due.is("the other player's stone", x.smallestFull(1, 9, -2, Due.set(12, 13)), Due.NONE);
        Due.is("two of two", x.smallestFull(0, 9, -2, Due.set(12, 13)), 2);
        HexWorkbench joined = Due.game(4, 9, 0, 12);
        Due.is("connected already", joined.smallestFull(0, 9, 12, 0), 0);
        Due.is("connected already, with six cells", joined.smallestFull(0, 9, 12, Due.range(1, 6)), 0);
        HexWorkbench six = Due.game(7, 4, 0, 17, 1, 30, 2, 43);
        long all = Due.set(10, 11, 23, 24, 36, 37);
        Due.is("all six", six.smallestFull(0, 4, 43, all), 6);
        Due.is("five of them are too few", six.smallestFull(0, 4, 43, all & ~Due.set(10)), Due.NONE);
        Due.is("the subset need not be the region", six.smallestFull(0, 4, 17, all), 2);
    }
}
