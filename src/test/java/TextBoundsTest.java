/** The section "The text" and promises 37 to 40: each test stands for a sentence. */
final class TextBoundsTest {
    /** What follows on a1S in the longest game, which is won with its last stone. */
    private static final int[] LONGEST_GAME = {28, 48, 41, 9, 21, 14, 43, 37, 40, 6, 39, 17, 10, 36, 8, 30, 35, 20,
        2, 33, 12, 42, 5, 16, 23, 44, 38, 29, 11, 22, 26, 46, 25, 1, 3, 45, 27, 4, 13, 31, 34, 15, 24, 18, 32, 7, 19,
        47};

    public static void main(String[] args) throws Exception {
        Due.runAll(TextBoundsTest.class);
    }

    private static void dueFault(int rows, String text, int want) {
        HexWorkbench x = Due.game(rows);
        Due.append(x, text);
        Due.is("faultPosition() of \"" + text + "\", " + rows + " rows", x.faultPosition(), want);
        Due.is("read() of \"" + text + "\", " + rows + " rows", x.read() >= 0 ? 0 : Due.NOT_POSSIBLE,
                want == Due.NONE ? 0 : Due.NOT_POSSIBLE);
    }

    private static void appendLongestGame(HexWorkbench x, int stones) {
        Due.append(x, "a1S");
        for (int i = 0; i < stones; i++) {
            x.append('a' + LONGEST_GAME[i] % 7);
            x.append('1' + LONGEST_GAME[i] / 7);
        }
    }

    // ---- the section "The text"

    static void atMost100Bytes() {
        HexWorkbench x = new HexWorkbench();
        for (int length = 1; length <= 100; length++) {
            Due.is("byte " + length, x.append('a'), length);
        }
        Due.is("byte 101", x.append('a'), Due.FULL);
        Due.is("clearText()", x.clearText(), 100);
    }

    static void movesPerhapsNone() {
        dueFault(5, "", Due.NONE);
        dueFault(5, "a1", Due.NONE);
        dueFault(5, "a1b1", Due.NONE);
        dueFault(5, "a1S", Due.NONE);
        dueFault(5, "a1 b1", 2);
        dueFault(5, " a1", 0);
        dueFault(5, "a1,b1", 2);
        dueFault(5, "a1b1\n", 4);
        dueFault(5, "a 1", 1);
    }

    static void lettersAreColumnsAndDigitsRows() {
        HexWorkbench x = Due.game(5);
        Due.append(x, "b1");
        x.read();
        Due.is("b1 is row 0, column 1", x.moveAt(0), 1);
        x.clearText();
        Due.append(x, "a2");
        x.read();
        Due.is("a2 is row 1, column 0", x.moveAt(0), 5);
        for (int n = 2; n <= 7; n++) {
            for (int cell = 0; cell < n * n; cell++) {
                HexWorkbench y = Due.game(n);
                y.append('a' + cell % n);
                y.append('1' + cell / n);
                Due.is(n + " rows: read() of cell " + cell, y.read(), 1);
                Due.is(n + " rows: moveAt(0) of cell " + cell, y.moveAt(0), cell);
            }
        }
    }

    static void faultsOfLettersNotOnTheBoard() {
        for (int n = 2; n <= 7; n++) {
            for (int letter = 0; letter < 128; letter++) {
                boolean column = letter >= 'a' && letter < 'a' + n;
                dueFault(n, (char) letter + "1", column ? Due.NONE : 0);
                if (letter != 'S') {
                    dueFault(n, "a1" + (char) letter + "2", column ? Due.NONE : 2);
                }
            }
        }
    }

    static void faultsOfDigitsNotOnTheBoard() {
        for (int n = 2; n <= 7; n++) {
            for (int digit = 0; digit < 128; digit++) {
                boolean row = digit >= '1' && digit < '1' + n;
                dueFault(n, "a" + (char) digit, row ? Due.NONE : 1);
            }
        }
        dueFault(5, "a0", 1);
        dueFault(5, "a6", 1);
        dueFault(5, "aS", 1);
        dueFault(5, "a1bS", 3);
    }

    static void faultsOfCellsThatAreNotEmpty() {
        dueFault(5, "a1a1", 3);
        dueFault(5, "a1b1a1", 5);
        dueFault(5, "a1b1b1", 5);
        dueFault(5, "a1b1c1a1", 7);
        dueFault(5, "b1Sa2", 4);
        dueFault(5, "b1Sb1", Due.NONE);
        dueFault(5, "c3Sc3", 4);
    }

    static void faultsOfSwapsThatAreNotPossible() {
        dueFault(5, "S", 0);
        dueFault(5, "Sa1", 0);
        dueFault(5, "a1SS", 3);
        dueFault(5, "a1b1S", 4);
        dueFault(5, "a1Sb1S", 5);
        dueFault(5, "s", 0);
        dueFault(5, "a1s", 2);
    }

    static void faultsBehindTheWin() {
        dueFault(2, "a1b1a2", Due.NONE);
        for (char any : new char[] {'b', '2', 'S', 'x', ' ', 0, 127}) {
            dueFault(2, "a1b1a2" + any, 6);
        }
        dueFault(2, "a1b1a2b2", 6);
        dueFault(2, "a1b1b2a2", Due.NONE);
        dueFault(2, "a1b1b2a2a", 8);
        dueFault(3, "a1a2b1b2c3c2", Due.NONE);
        dueFault(3, "a1a2b1b2c3c2c1", 12);
    }

    static void textsThatEndWithinAMove() {
        dueFault(5, "a", 1);
        dueFault(5, "e", 1);
        dueFault(5, "f", 0);
        dueFault(5, "a1b", 3);
        dueFault(5, "a1Sb", 4);
        dueFault(2, "a1b1b", 5);
        HexWorkbench x = Due.game(7);
        appendLongestGame(x, LONGEST_GAME.length - 1);
        Due.append(x, "f");
        Due.is("98 bytes, without the last digit", x.faultPosition(), 98);
    }

    /** The first fault counts: what comes behind it does not. */
    static void theFirstFaultCounts() {
        dueFault(5, "a1a1S", 3);
        dueFault(5, "fS", 0);
        dueFault(5, "a9z9", 1);
        dueFault(5, "a1zb1", 2);
        HexWorkbench x = Due.game(5);
        for (int i = 0; i < 100; i++) {
            x.append('z');
        }
        Due.is("100 bytes of faults", x.faultPosition(), 0);
    }

    // ---- promise 37

    static void appendTakes0To127() {
        HexWorkbench x = new HexWorkbench();
        for (int letter : new int[] {-1, 128, 129, 256 + 'a', -128, Integer.MIN_VALUE, Integer.MAX_VALUE}) {
            Due.is("append(" + letter + ")", x.append(letter), Due.BAD_VALUE);
        }
        Due.is("clearText()", x.clearText(), 0);
        for (int letter = 0; letter < 100; letter++) {
            Due.is("append(" + letter + ")", x.append(letter), letter + 1);
        }
        x.clearText();
        for (int letter = 100; letter < 128; letter++) {
            Due.is("append(" + letter + ")", x.append(letter), letter - 99);
        }
    }

    static void appendToAFullText() {
        HexWorkbench x = new HexWorkbench();
        for (int i = 0; i < 99; i++) {
            x.append('a');
        }
        Due.is("the last byte", x.append('a'), 100);
        Due.is("one too many", x.append('a'), Due.FULL);
        Due.is("one too many, and a wrong letter", x.append(128), Due.BAD_VALUE);
        Due.is("one too many, and a wrong letter", x.append(-1), Due.BAD_VALUE);
        Due.is("the length stays", x.clearText(), 100);
        Due.is("there is room again", x.append('a'), 1);
    }

    // ---- promise 38

    static void clearTextEmptiesIt() {
        HexWorkbench x = Due.game(5);
        Due.append(x, "zz");
        Due.is("faultPosition() before", x.faultPosition(), 0);
        x.clearText();
        Due.is("faultPosition() of nothing", x.faultPosition(), Due.NONE);
        Due.is("read() of nothing", x.read(), 0);
        Due.append(x, "a1");
        Due.is("read() of what came later", x.read(), 1);
    }

    static void clearTextReturnsTheLength() {
        HexWorkbench x = new HexWorkbench();
        Due.is("nothing", x.clearText(), 0);
        x.append(0);
        Due.is("one byte", x.clearText(), 1);
        Due.is("nothing again", x.clearText(), 0);
    }

    // ---- promise 39

    static void faultPositionIsForThePresentRows() {
        HexWorkbench x = new HexWorkbench();
        Due.append(x, "a1c3g7");
        int[] due = {2, 4, 4, 4, 4, Due.NONE};
        for (int rows = 2; rows <= 7; rows++) {
            x.begin(rows);
            Due.is(rows + " rows", x.faultPosition(), due[rows - 2]);
        }
        HexWorkbench y = Due.game(2);
        Due.append(y, "a1b1a2c1");
        Due.is("2 rows: behind the win", y.faultPosition(), 6);
        y.begin(3);
        Due.is("3 rows: no win", y.faultPosition(), Due.NONE);
    }

    static void faultPositionIsFromTheEmptyBoardOn() {
        HexWorkbench x = Due.game(2, 0, 1, 2);
        Due.append(x, "a1");
        Due.is("whatever the position is", x.faultPosition(), Due.NONE);
        Due.is("the game stays", x.moves(), 3);
        Due.is("winner()", x.winner(), 0);
    }

    // ---- promise 40

    static void readMakesTheGame() {
        HexWorkbench x = Due.game(3, 4, 8, 0);
        Due.append(x, "b1Sc2");
        Due.is("read()", x.read(), 3);
        Due.is("rows()", x.rows(), 3);
        Due.is("moves()", x.moves(), 3);
        Due.is("moveAt(0)", x.moveAt(0), 1);
        Due.is("moveAt(1)", x.moveAt(1), Due.SWAP);
        Due.is("moveAt(2)", x.moveAt(2), 5);
        Due.is("stones(0)", x.stones(0), Due.set(5));
        Due.is("stones(1)", x.stones(1), Due.set(3));
        Due.is("takeBack()", x.takeBack(), 2);
        Due.is("takeBack() of the swap", x.takeBack(), 1);
        Due.is("stones(0)", x.stones(0), Due.set(1));
        x.clearText();
        Due.is("read() of nothing", x.read(), 0);
        Due.is("stones(0)", x.stones(0), 0);
        Due.is("rows()", x.rows(), 3);
    }

    static void readLeavesNoMovesTakenBackAndNoThreats() {
        HexWorkbench x = Due.game(2, 1, 0);
        x.takeBack();
        x.takeBack();
        x.addThreat(0, Due.set(1, 2, 3));
        Due.is("read() of nothing", x.read(), 0);
        Due.is("again()", x.again(), Due.NOT_POSSIBLE);
        Due.is("threats(0)", x.threats(0), 0);
        Due.is("clearThreats()", x.clearThreats(), 0);
        HexWorkbench y = Due.game(2, 1, 0);
        y.takeBack();
        Due.append(y, "b1");
        Due.is("read() of the same moves", y.read(), 1);
        Due.is("again()", y.again(), Due.NOT_POSSIBLE);
    }

    static void readLeavesTheText() {
        HexWorkbench x = Due.game(5);
        Due.append(x, "a1b1");
        Due.is("read()", x.read(), 2);
        x.play(24);
        Due.is("read() again", x.read(), 2);
        Due.is("append goes on", x.append('c'), 5);
        Due.is("read() of a fault", x.read(), Due.NOT_POSSIBLE);
        Due.is("clearText()", x.clearText(), 5);
    }

    static void readNeedsATextWithoutFault() {
        HexWorkbench x = Due.game(2, 1, 0);
        x.takeBack();
        x.addThreat(0, Due.set(2, 3));
        Due.append(x, "a1S");
        x.append('S');
        Due.is("read() of a fault at the end", x.read(), Due.NOT_POSSIBLE);
        Due.is("the game stays", x.moveAt(0), 1);
        Due.is("the threats stay", x.threats(0), 1);
        Due.is("again()", x.again(), 1);
        x.clearText();
        Due.append(x, "a1b1a2");
        Due.is("read() of a won game", x.read(), 3);
        Due.is("winner()", x.winner(), 0);
        x.append('b');
        Due.is("read() of a byte behind the win", x.read(), Due.NOT_POSSIBLE);
    }

    /** The longest game has 99 bytes, and 100 are too many. */
    static void readTheLongestGame() {
        HexWorkbench x = Due.game(7);
        appendLongestGame(x, LONGEST_GAME.length);
        Due.is("faultPosition() of 99 bytes", x.faultPosition(), Due.NONE);
        Due.is("read() of 99 bytes", x.read(), 50);
        Due.is("moveAt(49)", x.moveAt(49), 47);
        Due.is("winner()", x.winner(), 1);
        x.append('a');
        Due.is("faultPosition() of 100 bytes", x.faultPosition(), 99);
    }
}
