import java.util.Random;

/** All promises: long runs of chosen-at-random calls, answered as the slow reference answers them. */
final class OracleTest {
    private static final int RUNS = 400;
    private static final int CALLS = 150;
    /** The document's limit; a run stops a little before it, since one step makes up to 12 calls. */
    private static final int LIFE = 512;
    private static final int LONG_RUNS = 25;
    private static final int LARGEST_STEP = 12;
    private static final int KINDS = 44;

    private final Random random;
    private final HexWorkbench x = new HexWorkbench();
    private final Reference y = new Reference();
    private final String run;
    private int made;

    private OracleTest(int seed) {
        random = new Random(seed);
        run = "seed " + seed + ": ";
    }

    public static void main(String[] args) {
        for (int seed = 0; seed < RUNS && !Due.anyWrong(); seed++) {
            boolean whole = seed < LONG_RUNS;
            new OracleTest(seed).go(whole ? LIFE : CALLS);
        }
        Due.end();
    }

    private void due(String call, long got, long want) {
        made++;
        Due.is(run + call, got, want);
    }

    private void go(int calls) {
        int rows = 2 + random.nextInt(random.nextInt(6) + 1);
        due("begin(" + rows + ")", x.begin(rows), y.begin(rows));
        fillSomewhat();
        while (made < calls - LARGEST_STEP) {
            call(random.nextInt(KINDS));
        }
        while (made < calls) {
            due("checksum()", x.checksum(), y.checksum());
        }
    }

    /** So that the calls that want few empty cells come into their own. */
    private void fillSomewhat() {
        int wanted = random.nextInt(14);
        for (int i = 0; i < 49 && Long.bitCount(y.emptySet()) > wanted; i++) {
            playOne(pick(y.emptySet()));
        }
        if (y.winner() != Reference.NONE && random.nextBoolean()) {
            due("takeBack()", x.takeBack(), y.takeBack());
        }
    }

    private void playOne(int cell) {
        due("play(" + cell + ")", x.play(cell), y.play(cell));
    }

    private int pick(long set) {
        int skipped = set == 0 ? 0 : random.nextInt(Long.bitCount(set));
        long rest = set;
        for (int i = 0; i < skipped; i++) {
            rest &= rest - 1;
        }
        return set == 0 ? 0 : Long.numberOfTrailingZeros(rest);
    }

    private int player() {
        return random.nextInt(20) == 0 ? random.nextInt(7) - 3 : random.nextInt(2);
    }

    private int cell() {
        return random.nextInt(20) == 0 ? random.nextInt(60) - 5 : random.nextInt(y.rows() * y.rows());
    }

    private int place() {
        return random.nextInt(2) == 0 ? -1 - random.nextInt(4) : cell();
    }

    private long region(int limit) {
        long region = 0;
        int size = random.nextInt(limit + 2);
        for (int i = 0; i < size && y.emptySet() != 0; i++) {
            region |= 1L << pick(y.emptySet());
        }
        return random.nextInt(30) == 0 ? region | 1L << random.nextInt(64) : region;
    }

    private int letter() {
        switch (random.nextInt(12)) {
            case 0:
                return 'S';
            case 1:
                return random.nextInt(140) - 5;
            default:
                return random.nextBoolean() ? 'a' + random.nextInt(y.rows()) : '1' + random.nextInt(y.rows());
        }
    }

    private void call(int kind) {
        if (kind < 12) {
            callOnGame(kind);
        } else if (kind < 22) {
            callOnConnections(kind);
        } else if (kind < 29) {
            callOnFillings(kind);
        } else if (kind < 35) {
            callOnRegions(kind);
        } else {
            callOnText(kind);
        }
    }

    private void callOnGame(int kind) {
        int cell = cell();
        int index = random.nextInt(y.moves() + 3) - 1;
        int player = player();
        switch (kind) {
            case 0:
                if (random.nextInt(6) == 0) {
                    int rows = 1 + random.nextInt(8);
                    due("begin(" + rows + ")", x.begin(rows), y.begin(rows));
                }
                break;
            case 1: due("rows()", x.rows(), y.rows()); break;
            case 2: playOne(cell); break;
            case 3: playOne(pick(y.emptySet())); break;
            case 4: due("swap()", x.swap(), y.swap()); break;
            case 5: due("takeBack()", x.takeBack(), y.takeBack()); break;
            case 6: due("again()", x.again(), y.again()); break;
            case 7: due("moves()", x.moves(), y.moves()); break;
            case 8: due("moveAt(" + index + ")", x.moveAt(index), y.moveAt(index)); break;
            case 9: due("turn()", x.turn(), y.turn()); break;
            case 10: due("winner()", x.winner(), y.winner()); break;
            default: due("stones(" + player + ")", x.stones(player), y.stones(player)); break;
        }
    }

    private void callOnConnections(int kind) {
        int cell = cell();
        int player = player();
        int bridge = random.nextInt(4) - random.nextInt(2);
        int what = random.nextInt(6) - 1;
        switch (kind) {
            case 12: due("beside(" + cell + ")", x.beside(cell), y.beside(cell)); break;
            case 13: due("chains(" + player + ")", x.chains(player), y.chains(player)); break;
            case 14: due("chainOf(" + cell + ")", x.chainOf(cell), y.chainOf(cell)); break;
            case 15: due("chain(" + cell + ")", x.chain(cell), y.chain(cell)); break;
            case 16: due("distance(" + player + ")", x.distance(player), y.distance(player)); break;
            case 17: due("shortest(" + player + ")", x.shortest(player), y.shortest(player)); break;
            case 18: due("cut(" + player + ")", x.cut(player), y.cut(player)); break;
            case 19: due("bridges(" + player + ")", x.bridges(player), y.bridges(player)); break;
            case 20:
                due("bridge(" + player + ", " + bridge + ", " + what + ")",
                        x.bridge(player, bridge, what), y.bridge(player, bridge, what));
                break;
            default: due("answers()", x.answers(), y.answers()); break;
        }
    }

    private void callOnFillings(int kind) {
        int cell = cell();
        int player = player();
        int rows = 1 + random.nextInt(4);
        switch (kind) {
            case 22: due("fillings(" + player + ")", x.fillings(player), y.fillings(player)); break;
            case 23: due("weight(" + cell + ")", x.weight(cell), y.weight(cell)); break;
            case 24:
                if (Long.bitCount(y.emptySet()) <= 8 || Long.bitCount(y.emptySet()) > 12
                        || random.nextInt(8) == 0) {
                    due("dead()", x.dead(), y.dead());
                }
                break;
            case 25: due("solve()", x.solve(), y.solve()); break;
            case 26: due("winningMoves()", x.winningMoves(), y.winningMoves()); break;
            case 27: due("duration()", x.duration(), y.duration()); break;
            default:
                if (random.nextInt(10) == 0) {
                    due("winningOpenings(" + rows + ")", x.winningOpenings(rows), y.winningOpenings(rows));
                }
                break;
        }
    }

    private void callOnRegions(int kind) {
        int player = player();
        int from = place();
        int to = place();
        long region = region(kind == 30 ? 6 : 8);
        String given = "(" + player + ", " + from + ", " + to + ", " + region + ")";
        switch (kind) {
            case 29: due("strength" + given, x.strength(player, from, to, region),
                    y.strength(player, from, to, region)); break;
            case 30: due("smallestFull" + given, x.smallestFull(player, from, to, region),
                    y.smallestFull(player, from, to, region)); break;
            case 31: due("addThreat(" + player + ", " + region + ")", x.addThreat(player, region),
                    y.addThreat(player, region)); break;
            case 32:
                if (random.nextInt(8) == 0) {
                    due("clearThreats()", x.clearThreats(), y.clearThreats());
                }
                break;
            case 33: due("threats(" + player + ")", x.threats(player), y.threats(player)); break;
            default: due("needed(" + player + ")", x.needed(player), y.needed(player)); break;
        }
    }

    private void callOnText(int kind) {
        int start = random.nextInt() >>> random.nextInt(2);
        int games = random.nextInt(6) == 0 ? random.nextInt(53) - 1 : 1 + random.nextInt(4);
        int slot = random.nextInt(8) == 0 ? random.nextInt(5) - 2 : random.nextInt(2);
        int letter = letter();
        switch (kind) {
            case 35: due("randomGames(" + start + ", " + games + ")", x.randomGames(start, games),
                    y.randomGames(start, games)); break;
            case 36: appendMove(); break;
            case 37: due("append(" + letter + ")", x.append(letter), y.append(letter)); break;
            case 38: due("clearText()", x.clearText(), y.clearText()); break;
            case 39: due("faultPosition()", x.faultPosition(), y.faultPosition()); break;
            case 40: due("read()", x.read(), y.read()); break;
            case 41: due("save(" + slot + ")", x.save(slot), y.save(slot)); break;
            case 42:
                if (random.nextInt(3) == 0) {
                    due("restore(" + slot + ")", x.restore(slot), y.restore(slot));
                }
                break;
            default: due("checksum()", x.checksum(), y.checksum()); break;
        }
    }

    private void appendMove() {
        int moves = 1 + random.nextInt(6);
        for (int i = 0; i < moves; i++) {
            int column = 'a' + random.nextInt(y.rows());
            int row = '1' + random.nextInt(y.rows());
            due("append(" + column + ")", x.append(column), y.append(column));
            due("append(" + row + ")", x.append(row), y.append(row));
        }
    }
}
