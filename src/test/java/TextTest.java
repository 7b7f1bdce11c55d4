/** Promises 37 to 40: the text, its faults, and reading it. */
final class TextTest {
    public static void main(String[] args) {
        appending();
        faults();
        endings();
        allRows();
        reading();
        Due.end();
    }

    private static void appending() {
        HexWorkbench x = new HexWorkbench();
        for (int wrong : new int[] {-1, 128, Integer.MIN_VALUE, Integer.MAX_VALUE}) {
            Due.is("append(" + wrong + ")", x.append(wrong), -12);
        }
        Due.is("append(0)", x.append(0), 1);
        Due.is("append(127)", x.append(127), 2);
        for (int i = 3; i <= 100; i++) {
            Due.is("append('a')", x.append('a'), i);
        }
        Due.is("append('a') to 100 bytes", x.append('a'), -14);
        Due.is("append(128) to 100 bytes", x.append(128), -12);
        Due.is("clearText()", x.clearText(), 100);
        Due.is("clearText()", x.clearText(), 0);
        Due.is("append(97)", x.append(97), 1);
    }

    private static int fault(int rows, String text) {
        HexWorkbench x = new HexWorkbench();
        x.begin(rows);
        Due.append(x, text);
        return x.faultPosition();
    }

    private static void dueFault(int rows, String text, int want) {
        Due.is("faultPosition() of \"" + text + "\", " + rows + " rows", fault(rows, text), want);
    }

    private static void faults() {
        dueFault(5, "", -15);
        dueFault(5, "a1", -15);
        dueFault(5, "a1e5", -15);
        dueFault(5, "f1", 0);
        dueFault(5, "a6", 1);
        dueFault(5, "a0", 1);
        dueFault(5, "A1", 0);
        dueFault(5, "s", 0);
        dueFault(5, "1a", 0);
        dueFault(5, "a1 b2", 2);
        dueFault(5, "a1b2\n", 4);
        dueFault(5, "aa", 1);
        dueFault(5, "aS", 1);
        dueFault(5, "a1a1", 3);
        dueFault(5, "a1b1a1", 5);
        dueFault(5, "S", 0);
        dueFault(5, "a1S", -15);
        dueFault(5, "a1SS", 3);
        dueFault(5, "a1b1S", 4);
        dueFault(5, "b1Sb1", -15);
        dueFault(5, "b1Sa2", 4);
        dueFault(5, "c3Sc3", 4);
        dueFault(5, "`1", 0);
        dueFault(5, "a/", 1);
    }

    private static void endings() {
        dueFault(5, "a", 1);
        dueFault(5, "a1b", 3);
        dueFault(5, "a1Sb", 4);
        dueFault(5, "f", 0);
        dueFault(2, "a1b1a2", -15);
        dueFault(2, "a1b1a2b2", 6);
        dueFault(2, "a1b1a2b", 6);
        dueFault(2, "a1b1a2x", 6);
        dueFault(2, "a1b1a2S", 6);
        dueFault(2, "a1b1b2a2", -15);
        dueFault(2, "a1b1b2a2a1", 8);
    }

    private static void allRows() {
        for (int rows = 2; rows <= 7; rows++) {
            char column = (char) ('a' + rows - 1);
            char row = (char) ('0' + rows);
            dueFault(rows, "" + column + row, -15);
            dueFault(rows, "" + (char) (column + 1) + row, 0);
            dueFault(rows, "" + column + (char) (row + 1), 1);
        }
        HexWorkbench x = new HexWorkbench();
        Due.append(x, "e5");
        Due.is("faultPosition() on 5 rows", x.faultPosition(), -15);
        x.begin(4);
        Due.is("faultPosition() on 4 rows", x.faultPosition(), 0);
        Due.is("read() on 4 rows", x.read(), -13);
    }

    private static void reading() {
        HexWorkbench x = Due.game(3, 4, 8);
        x.takeBack();
        Due.append(x, "b1Sc2");
        Due.is("faultPosition()", x.faultPosition(), -15);
        Due.is("moves() stay", x.moves(), 1);
        Due.is("read()", x.read(), 3);
        Due.is("rows()", x.rows(), 3);
        Due.is("moveAt(0)", x.moveAt(0), 1);
        Due.is("moveAt(1)", x.moveAt(1), -16);
        Due.is("moveAt(2)", x.moveAt(2), 5);
        Due.is("stones(0)", x.stones(0), Due.set(5));
        Due.is("stones(1)", x.stones(1), Due.set(3));
        Due.is("again() after read", x.again(), -13);
        Due.is("takeBack()", x.takeBack(), 2);
        x.append('z');
        Due.is("read() of a fault", x.read(), -13);
        Due.is("a read in vain changes nothing", x.again(), 2);
        Due.is("the text stays", x.clearText(), 6);
        Due.is("read() of nothing", x.read(), 0);
        Due.is("moves()", x.moves(), 0);
        Due.is("stones(0) | stones(1)", x.stones(0) | x.stones(1), 0);
        longText();
    }

    /** The longest game has 99 bytes. */
    private static void longText() {
        int[] cells = {28, 48, 41, 9, 21, 14, 43, 37, 40, 6, 39, 17, 10, 36, 8, 30, 35, 20, 2, 33, 12, 42, 5,
            16, 23, 44, 38, 29, 11, 22, 26, 46, 25, 1, 3, 45, 27, 4, 13, 31, 34, 15, 24, 18, 32, 7, 19, 47};
        HexWorkbench x = Due.game(7);
        Due.append(x, "a1S");
        for (int cell : cells) {
            x.append('a' + cell % 7);
            x.append('1' + cell / 7);
        }
        Due.is("faultPosition() of 99 bytes", x.faultPosition(), -15);
        Due.is("read() of 99 bytes", x.read(), 50);
        Due.is("winner()", x.winner(), 1);
        Due.is("append() of the last byte", x.append('a'), 100);
        Due.is("faultPosition() of 100 bytes", x.faultPosition(), 99);
    }
}
