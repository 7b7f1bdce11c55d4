import java.math.BigInteger;
import java.util.ArrayList;
import java.util.List;

/** Promises 41 to 43: each test stands for a sentence. */
final class SlotBoundsTest {
    public static void main(String[] args) throws Exception {
        Due.runAll(SlotBoundsTest.class);
    }

    // ---- promise 41

    static void saveKeepsRowsMovesAndThoseTakenBack() {
        HexWorkbench x = Due.game(4, 1, Due.SWAP, 5, 6);
        x.takeBack();
        x.takeBack();
        x.takeBack();
        Due.is("save(0)", x.save(0), 1);
        x.begin(7);
        Due.is("restore(0)", x.restore(0), 1);
        Due.is("rows()", x.rows(), 4);
        Due.is("moveAt(0)", x.moveAt(0), 1);
        Due.is("again()", x.again(), 1);
        Due.is("moveAt(1)", x.moveAt(1), Due.SWAP);
        Due.is("again()", x.again(), 2);
        Due.is("again()", x.again(), 3);
        Due.is("moveAt(3)", x.moveAt(3), 6);
        Due.is("again() at the end", x.again(), Due.NOT_POSSIBLE);
        Due.is("the game goes on after save", x.play(0), 4);
    }

    static void saveTakesThePlaceOfTheFormer() {
        HexWorkbench x = Due.game(7, 48, 47, 46);
        x.takeBack();
        x.save(1);
        x.begin(2);
        Due.is("save(1) of a shorter game", x.save(1), 0);
        x.begin(3);
        Due.is("restore(1)", x.restore(1), 0);
        Due.is("rows()", x.rows(), 2);
        Due.is("again(): none is left of the former", x.again(), Due.NOT_POSSIBLE);
        Due.is("stones(0)", x.stones(0), 0);
        Due.is("the other slot is empty still", x.restore(0), Due.NOT_POSSIBLE);
    }

    static void saveNeedsASlot() {
        HexWorkbench x = Due.game(3, 4);
        for (int slot : Due.NOT_0_OR_1) {
            Due.is("save(" + slot + ")", x.save(slot), Due.BAD_INDEX);
        }
        Due.is("restore(0)", x.restore(0), Due.NOT_POSSIBLE);
        Due.is("restore(1)", x.restore(1), Due.NOT_POSSIBLE);
    }

    static void saveReturnsTheMoves() {
        HexWorkbench x = new HexWorkbench();
        Due.is("no moves", x.save(0), 0);
        x.play(0);
        Due.is("one move", x.save(1), 1);
        x.swap();
        Due.is("two moves", x.save(0), 2);
        x.takeBack();
        Due.is("those taken back do not count", x.save(0), 1);
        HexWorkbench won = Due.game(2, 0, 1, 2);
        Due.is("a won game", won.save(1), 3);
    }

    // ---- promise 42

    static void restoreMakesWhatWasSaved() {
        HexWorkbench x = Due.game(3, 4, 0);
        x.save(0);
        x.begin(6);
        x.play(35);
        x.save(1);
        Due.is("restore(0)", x.restore(0), 2);
        Due.is("rows()", x.rows(), 3);
        Due.is("stones(0)", x.stones(0), Due.set(4));
        Due.is("stones(1)", x.stones(1), Due.set(0));
        Due.is("restore(1)", x.restore(1), 1);
        Due.is("rows()", x.rows(), 6);
        Due.is("stones(0)", x.stones(0), Due.set(35));
        Due.is("again(): none was taken back", x.again(), Due.NOT_POSSIBLE);
        x.play(0);
        x.takeBack();
        x.restore(1);
        Due.is("again(): what was taken back later is gone", x.again(), Due.NOT_POSSIBLE);
    }

    static void restoreLeavesNoThreats() {
        HexWorkbench x = Due.game(2);
        x.addThreat(0, Due.set(1, 2, 3));
        Due.is("save(0)", x.save(0), 0);
        Due.is("threats(0) after save", x.threats(0), 1);
        x.restore(0);
        Due.is("threats(0)", x.threats(0), 0);
        Due.is("needed(0)", x.needed(0), Due.NONE);
        Due.is("clearThreats()", x.clearThreats(), 0);
    }

    static void slotsKeepEverything() {
        HexWorkbench x = Due.game(4, 5, 0, 10);
        x.takeBack();
        x.save(0);
        for (int i = 0; i < 3; i++) {
            Due.is("restore(0)", x.restore(0), 2);
            Due.is("again()", x.again(), 2);
            Due.is("moveAt(2)", x.moveAt(2), 10);
            x.takeBack();
            x.takeBack();
            Due.is("play(15)", x.play(15), 1);
            x.play(14);
            x.takeBack();
        }
        Due.is("restore(0)", x.restore(0), 2);
        Due.is("moveAt(1)", x.moveAt(1), 0);
        x.begin(7);
        Due.is("begin leaves the slot", x.restore(0), 2);
        x.append('a');
        x.append('1');
        x.read();
        Due.is("read leaves the slot", x.restore(0), 2);
        Due.is("the text is not the slot's", x.clearText(), 2);
    }

    static void restoreNeedsASlot() {
        HexWorkbench x = Due.game(3, 4);
        x.save(0);
        x.save(1);
        for (int slot : Due.NOT_0_OR_1) {
            Due.is("restore(" + slot + ")", x.restore(slot), Due.BAD_INDEX);
        }
        HexWorkbench y = new HexWorkbench();
        for (int slot : Due.NOT_0_OR_1) {
            Due.is("restore(" + slot + ") of a new object", y.restore(slot), Due.BAD_INDEX);
        }
    }

    static void restoreNeedsSomethingSaved() {
        HexWorkbench x = Due.game(3, 4);
        Due.is("restore(0)", x.restore(0), Due.NOT_POSSIBLE);
        Due.is("restore(1)", x.restore(1), Due.NOT_POSSIBLE);
        x.save(1);
        Due.is("restore(0), with the other one saved", x.restore(0), Due.NOT_POSSIBLE);
        Due.is("restore(1)", x.restore(1), 1);
        HexWorkbench empty = new HexWorkbench();
        empty.save(0);
        Due.is("an empty game was saved", empty.restore(0), 0);
    }

    // ---- promise 43

    /** The checksum without overflow, brought into the range of a long at the end. */
    private static long checksumOf(HexWorkbench x) {
        List<Long> values = new ArrayList<>();
        values.add((long) x.rows());
        values.add((long) x.moves());
        for (int i = 0; i < x.moves(); i++) {
            values.add((long) x.moveAt(i));
        }
        values.add((long) x.winner());
        for (int player = 0; player < 2; player++) {
            values.add(x.stones(player));
            values.add((long) x.chains(player));
            values.add((long) x.distance(player));
            values.add(x.shortest(player));
            values.add((long) x.cut(player));
            values.add((long) x.bridges(player));
            values.add((long) x.threats(player));
            values.add(x.needed(player));
        }
        values.add(x.answers());
        BigInteger h = BigInteger.valueOf(37);
        for (long value : values) {
            h = h.multiply(BigInteger.valueOf(31)).add(BigInteger.valueOf(value));
        }
        return h.longValue();
    }

    static void checksumsOverflow() {
        HexWorkbench threats = Due.game(2);
        threats.addThreat(0, Due.set(1, 2, 3));
        threats.addThreat(0, Due.set(0, 1, 2));
        threats.addThreat(1, Due.range(0, 3));
        HexWorkbench takenBack = Due.game(4, 5, 0, 12);
        takenBack.takeBack();
        HexWorkbench longest = Due.game(7, 0, Due.SWAP, 28, 48, 41, 9, 21, 14, 43, 37, 40, 6, 39, 17, 10, 36, 8,
                30, 35, 20, 2, 33, 12, 42, 5, 16, 23, 44, 38, 29, 11, 22, 26, 46, 25, 1, 3, 45, 27, 4, 13, 31, 34,
                15, 24, 18, 32, 7, 19, 47);
        HexWorkbench[] all = {new HexWorkbench(), Due.game(2), Due.game(7), threats, takenBack, longest,
            Due.game(5, 12, Due.SWAP), Due.game(3, 1, 0, 4, 2, 7), Due.game(3, 0, 3, 1, 4, 8, 5),
            Due.game(4, 5, 0, 12, 8), Due.game(4, 5, 0, 12), Due.game(2, 0, 1, 3, 2)};
        for (int i = 0; i < all.length; i++) {
            Due.is("checksum() of game " + i, all[i].checksum(), checksumOf(all[i]));
        }
    }

    /** Taken from the shared runs, so that the test above does not hold for itself only. */
    static void checksumsAsTheSharedRunsHaveThem() {
        Due.is("a swap", Due.game(5, 12, Due.SWAP, 7, 13).checksum(), 4501372127770611163L);
        Due.is("a game of 4 rows", Due.game(4, 5, 0, 8, 3, 12, 9).checksum(), -6416107332113428122L);
        Due.is("a game from a text", Due.game(5, 12, Due.SWAP, 6).checksum(), -8793669944499197372L);
    }

    /** Each of these leaves the rest as it is, and none of them is in the checksum. */
    static void checksumsLeaveOutTextSlotsAndMovesTakenBack() {
        HexWorkbench x = Due.game(4, 5, 0);
        long before = x.checksum();
        x.append('a');
        Due.is("a text", x.checksum(), before);
        x.save(0);
        Due.is("a slot", x.checksum(), before);
        x.play(12);
        x.takeBack();
        Due.is("a move taken back", x.checksum(), before);
    }
}
