/** Promise 36: random games. */
final class RandomGamesTest {
    public static void main(String[] args) {
        oneGame();
        asTheReference();
        decided();
        wrong();
        Due.end();
    }

    /**
     * On two rows from the state 0, the random numbers are 0 (of state 12345), 21468 (of 1406932606), 9988
     * (of 654583775) and 22117 (of 1449466924): player 0 gets cells 0 and 2, and wins.
     */
    private static void oneGame() {
        long[] states = {12345, 1406932606, 654583775, 1449466924};
        long state = 0;
        for (long want : states) {
            state = (state * 1103515245L + 12345L) % 2147483648L;
            Due.is("the state in the comment above", state, want);
        }
        HexWorkbench x = Due.game(2);
        // 0 of 4 is cell 0; 21468 mod 3 is 0, cell 1; 9988 mod 2 is 0, cell 2.
        Due.is("randomGames(0, 1)", x.randomGames(0, 1), 1);
        Due.is("moves() stay", x.moves(), 0);
        Due.is("stones(0) stay", x.stones(0), 0);
        Due.is("the same once more", x.randomGames(0, 1), 1);
    }

    private static void asTheReference() {
        for (int rows = 2; rows <= 7; rows++) {
            HexWorkbench x = Due.game(rows);
            Reference y = new Reference();
            y.begin(rows);
            compare(x, y);
            x.play(1);
            y.play(1);
            compare(x, y);
            x.swap();
            y.swap();
            compare(x, y);
        }
    }

    private static void compare(HexWorkbench x, Reference y) {
        for (int start : new int[] {0, 1, 7, 65536, 2147483647}) {
            for (int games : new int[] {1, 2, 50}) {
                String call = "randomGames(" + start + ", " + games + "), " + y.rows() + " rows, moves " + y.moves();
                Due.is(call, x.randomGames(start, games), y.randomGames(start, games));
            }
        }
    }

    private static void decided() {
        Due.is("won by player 0", Due.game(3, 1, 0, 4, 2, 7).randomGames(3, 50), 50);
        Due.is("won by player 1", Due.game(3, 0, 3, 1, 4, 8, 5).randomGames(3, 50), 0);
        Due.is("a full board", Due.game(2, 0, 1, 3, 2).randomGames(3, 50), 0);
    }

    private static void wrong() {
        HexWorkbench x = Due.game(2);
        Due.is("randomGames(-1, 1)", x.randomGames(-1, 1), -12);
        Due.is("randomGames(min, 1)", x.randomGames(Integer.MIN_VALUE, 1), -12);
        Due.is("randomGames(0, 0)", x.randomGames(0, 0), -12);
        Due.is("randomGames(0, 51)", x.randomGames(0, 51), -12);
        Due.is("randomGames(0, -1)", x.randomGames(0, -1), -12);
        Due.is("randomGames(0, max)", x.randomGames(0, Integer.MAX_VALUE), -12);
    }
}
