import com.sun.management.ThreadMXBean;
import java.lang.management.ManagementFactory;

/** All calls of a run live in one room: an object with its 512 calls takes only a small part of it. */
final class RoomTest {
    /** The room has some 7.3 million fields and elements; this is a small part of a hundredth of it. */
    private static final long MOST_BYTES_OF_AN_OBJECT = 20_000;
    private static final long MOST_BYTES_OF_ITS_CALLS = 10_000;

    public static void main(String[] args) throws Exception {
        Due.runAll(RoomTest.class);
    }

    private static long bytesSoFar() {
        return ((ThreadMXBean) ManagementFactory.getThreadMXBean()).getCurrentThreadAllocatedBytes();
    }

    /** The dearest calls, and those that could make something at each call. */
    private static void callDearly(HexWorkbench x, int i) {
        switch (i % 16) {
            case 0: x.begin(3); break;
            case 1: x.solve(); break;
            case 2: x.winningMoves(); break;
            case 3: x.duration(); break;
            case 4: x.winningOpenings(3); break;
            case 5: x.strength(0, -1, -2, 255); break;
            case 6: x.smallestFull(0, -1, -2, 63); break;
            case 7: x.addThreat(0, 255); break;
            case 8: x.dead(); break;
            case 9: x.randomGames(i, 50); break;
            case 10: x.append('a' + i % 3); break;
            case 11: x.faultPosition(); break;
            case 12: x.read(); break;
            case 13: x.save(i / 16 % 2); break;
            case 14: x.restore(i / 16 % 2); break;
            default: x.checksum(); break;
        }
    }

    private static void liveWhole(HexWorkbench x) {
        for (int i = 0; i < 512; i++) {
            callDearly(x, i);
        }
    }

    static void objectsAreSmall() {
        liveWhole(new HexWorkbench());
        long before = bytesSoFar();
        HexWorkbench x = new HexWorkbench();
        long made = bytesSoFar();
        liveWhole(x);
        long after = bytesSoFar();
        Due.holds("a new object takes " + (made - before) + " bytes", made - before <= MOST_BYTES_OF_AN_OBJECT);
        Due.holds("512 calls take " + (after - made) + " bytes", after - made <= MOST_BYTES_OF_ITS_CALLS);
        Due.is("rows()", x.rows(), 3);
    }
}
