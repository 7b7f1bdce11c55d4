import java.util.ArrayList;
import java.util.List;

/** Promise 36: each test stands for a sentence. */
final class RandomBoundsTest {
    private static final int MAX = Integer.MAX_VALUE;

    public static void main(String[] args) throws Exception {
        Due.runAll(RandomBoundsTest.class);
    }

    static void thePositionStays() {
        HexWorkbench x = Due.game(4, 5, 0, 12);
        x.takeBack();
        long before = x.checksum();
        x.randomGames(1, 50);
        Due.is("checksum()", x.checksum(), before);
        Due.is("moves()", x.moves(), 2);
        Due.is("again()", x.again(), 2);
        Due.is("the state is not kept either", x.randomGames(1, 50), x.randomGames(1, 50));
    }

    /** One game from the empty board of two rows on, drawn number by number. */
    private static int winnerOnTwoRows(long start) {
        List<Integer> empty = new ArrayList<>(List.of(0, 1, 2, 3));
        int own = 0;
        long state = start;
        for (int i = 0; i < 4; i++) {
            state = (state * 1103515245L + 12345L) & 0x7FFFFFFFL;
            int cell = empty.remove((int) ((state >> 16) % empty.size()));
            own |= i % 2 == 0 ? 1 << cell : 0;
        }
        boolean won = (own & 5) == 5 || (own & 6) == 6 || (own & 10) == 10;
        return won ? 0 : 1;
    }

    /** Starts at which the state wraps around, and such at which it does not. */
    static void statesWrapAround() {
        HexWorkbench x = Due.game(2);
        for (int start : new int[] {0, 1, 2, 3, 7, 65535, 65536, 1103515245, 1 << 30, MAX - 1, MAX}) {
            Due.is("randomGames(" + start + ", 1)", x.randomGames(start, 1), 1 - winnerOnTwoRows(start));
        }
        int won = 0;
        int lost = 0;
        x = Due.game(2);
        for (int start = 0; start < 200; start++) {
            int game = 1 - winnerOnTwoRows(start * 10_000_019L);
            won += game;
            lost += 1 - game;
            Due.is("start " + start * 10_000_019L, x.randomGames((int) (start * 10_000_019L), 1), game);
        }
        Due.holds("both players win some", won > 20 && lost > 20);
    }

    static void theStateGoesOnFromGameToGame() {
        int[][] games = {{}, {24}, {24, Due.SWAP}, {24, 0, 48}};
        for (int[] moves : games) {
            HexWorkbench x = Due.game(7, moves);
            Reference y = Due.reference(7, moves);
            for (int count : new int[] {1, 2, 3, 49, 50}) {
                Due.is("randomGames(5, " + count + ") after " + moves.length + " moves", x.randomGames(5, count),
                        y.randomGames(5, count));
            }
        }
    }

    static void gamesGoOnWhenWonUntilTheBoardIsFull() {
        Due.is("won by player 0", Due.game(3, 1, 0, 4, 2, 7).randomGames(3, 50), 50);
        Due.is("won by player 1", Due.game(3, 0, 3, 1, 4, 8, 5).randomGames(3, 50), 0);
        Due.is("a full board", Due.game(2, 0, 1, 3, 2).randomGames(3, 50), 0);
        int[] one = {0, 1, 3};
        Due.is("one empty cell, player 1's", Due.game(2, one).randomGames(9, 50), 0);
        int[] last = {0, Due.SWAP, 3, 2};
        Due.is("one empty cell, player 0's", Due.game(2, last).randomGames(9, 50),
                Due.reference(2, last).randomGames(9, 50));
        for (int rows = 2; rows <= 7; rows++) {
            Due.is(rows + " rows", Due.game(rows).randomGames(11, 20), Due.reference(rows).randomGames(11, 20));
        }
    }

    static void startsFrom0To2147483647() {
        HexWorkbench x = Due.game(2);
        Due.is("start -1", x.randomGames(-1, 1), Due.BAD_VALUE);
        Due.is("the lowest start", x.randomGames(Integer.MIN_VALUE, 1), Due.BAD_VALUE);
        Due.is("start 0", x.randomGames(0, 1), 1 - winnerOnTwoRows(0));
        Due.is("the highest start", x.randomGames(MAX, 1), 1 - winnerOnTwoRows(MAX));
    }

    static void gamesFrom1To50() {
        HexWorkbench x = Due.game(3, 1, 0, 4, 2, 7);
        for (int games : new int[] {0, 51, -1, 52, Integer.MIN_VALUE, MAX}) {
            Due.is("games " + games, x.randomGames(0, games), Due.BAD_VALUE);
        }
        Due.is("1 game", x.randomGames(0, 1), 1);
        Due.is("50 games", x.randomGames(0, 50), 50);
        Due.is("49 games", x.randomGames(0, 49), 49);
    }

    static void bothArgumentsWrong() {
        HexWorkbench x = Due.game(2);
        Due.is("start -1, games 0", x.randomGames(-1, 0), Due.BAD_VALUE);
        Due.is("start -1, games 51", x.randomGames(-1, 51), Due.BAD_VALUE);
        Due.is("moves()", x.moves(), 0);
    }
}
