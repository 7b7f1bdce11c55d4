/** Promises 41 to 43: slots and the checksum. */
final class SlotsTest {
    public static void main(String[] args) {
        saving();
        restoringMovesTakenBack();
        wrongSlots();
        checksums();
        Due.end();
    }

    private static void saving() {
        HexWorkbench x = Due.game(3, 4, 0);
        Due.is("save(0)", x.save(0), 2);
        x.begin(6);
        x.play(35);
        Due.is("save(1)", x.save(1), 1);
        x.play(0);
        Due.is("restore(0)", x.restore(0), 2);
        Due.is("rows()", x.rows(), 3);
        Due.is("stones(0)", x.stones(0), Due.set(4));
        Due.is("stones(1)", x.stones(1), Due.set(0));
        x.play(8);
        Due.is("restore(0) again", x.restore(0), 2);
        Due.is("moves()", x.moves(), 2);
        Due.is("restore(1)", x.restore(1), 1);
        Due.is("rows()", x.rows(), 6);
        Due.is("stones(0)", x.stones(0), Due.set(35));
        Due.is("save(0) in place of it", x.save(0), 1);
        x.begin(2);
        Due.is("restore(0)", x.restore(0), 1);
        Due.is("rows()", x.rows(), 6);
    }

    private static void restoringMovesTakenBack() {
        HexWorkbench x = Due.game(4, 1, HexWorkbench.SWAP, 5, 6);
        x.takeBack();
        x.takeBack();
        x.takeBack();
        Due.is("save(1)", x.save(1), 1);
        x.play(15);
        Due.is("again() after another move", x.again(), -13);
        Due.is("restore(1)", x.restore(1), 1);
        Due.is("again() of the swap", x.again(), 1);
        Due.is("stones(1)", x.stones(1), Due.set(4));
        Due.is("again()", x.again(), 2);
        Due.is("again()", x.again(), 3);
        Due.is("again()", x.again(), -13);
        Due.is("moveAt(3)", x.moveAt(3), 6);
        Due.is("restore(1)", x.restore(1), 1);
        Due.is("stones(0)", x.stones(0), Due.set(1));
        Due.is("stones(1)", x.stones(1), 0);
    }

    private static void wrongSlots() {
        HexWorkbench x = Due.game(3, 4);
        for (int wrong : new int[] {-1, 2, Integer.MIN_VALUE, Integer.MAX_VALUE}) {
            Due.is("save(" + wrong + ")", x.save(wrong), -11);
            Due.is("restore(" + wrong + ")", x.restore(wrong), -11);
        }
        Due.is("restore(0)", x.restore(0), -13);
        Due.is("restore(1)", x.restore(1), -13);
        x.save(1);
        Due.is("restore(0)", x.restore(0), -13);
        Due.is("moves()", x.moves(), 1);
        HexWorkbench y = new HexWorkbench();
        Due.is("save(0) without moves", y.save(0), 0);
        Due.is("restore(0) without moves", y.restore(0), 0);
    }

    private static void checksums() {
        dueChecksum("an empty board", new HexWorkbench());
        dueChecksum("a swap", Due.game(5, 12, HexWorkbench.SWAP, 7, 13));
        dueChecksum("a won game", Due.game(3, 1, 0, 4, 2, 7));
        dueChecksum("an answer", Due.game(4, 5, 0, 12, 8));
        HexWorkbench threats = Due.game(2);
        threats.addThreat(0, Due.set(1, 2, 3));
        threats.addThreat(0, Due.set(0, 1, 2));
        threats.addThreat(1, Due.set(0, 1, 2, 3));
        dueChecksum("threats", threats);
        Due.is("checksum() of an example", Due.game(5, 12, HexWorkbench.SWAP, 7, 13).checksum(),
                4501372127770611163L);
    }

    private static void dueChecksum(String what, HexWorkbench x) {
        long h = 37;
        h = h * 31 + x.rows();
        h = h * 31 + x.moves();
        for (int i = 0; i < x.moves(); i++) {
            h = h * 31 + x.moveAt(i);
        }
        h = h * 31 + x.winner();
        for (int player = 0; player < 2; player++) {
            long[] values = {x.stones(player), x.chains(player), x.distance(player), x.shortest(player),
                x.cut(player), x.bridges(player), x.threats(player), x.needed(player)};
            for (long value : values) {
                h = h * 31 + value;
            }
        }
        Due.is("checksum() of " + what, x.checksum(), h * 31 + x.answers());
    }
}
