import java.util.ArrayList;
import java.util.List;

/** The section "Errors", and what it says of all calls: each test stands for a sentence. */
final class ErrorBoundsTest {
    private static final int MIN = Integer.MIN_VALUE;
    private static final int MAX = Integer.MAX_VALUE;

    /** A call with its arguments. */
    private interface Call {
        long on(HexWorkbench x);
    }

    /** A position with all that belongs to it, made anew as often as it is wanted. */
    private interface Start {
        HexWorkbench make();
    }

    private record Refused(String name, long error, Call call) {
    }

    private record Named(String name, Call call) {
    }

    public static void main(String[] args) throws Exception {
        Due.runAll(ErrorBoundsTest.class);
    }

    // ---- positions

    private static HexWorkbench empty() {
        return new HexWorkbench();
    }

    /** With moves taken back, a threat, a text without a fault, and one slot with moves taken back too. */
    private static HexWorkbench midst() {
        HexWorkbench x = Due.game(3, 1, Due.SWAP, 4);
        x.takeBack();
        x.save(0);
        x.begin(4);
        for (int cell : new int[] {5, 0, 10, 15, 3, 12}) {
            x.play(cell);
        }
        x.takeBack();
        x.takeBack();
        x.addThreat(0, Due.set(1, 2, 6, 9, 13, 14));
        Due.append(x, "b2a1");
        return x;
    }

    /** Won, with one cell empty, a threat, and a text with a fault. */
    private static HexWorkbench won() {
        HexWorkbench x = Due.game(2, 0, 1);
        x.addThreat(0, Due.set(2, 3));
        x.play(2);
        x.save(1);
        Due.append(x, "a1SS");
        return x;
    }

    /** All that can be full is full: the threats, the text and the slots. */
    private static HexWorkbench full() {
        HexWorkbench x = Due.game(2, 1, 0);
        x.save(0);
        x.takeBack();
        x.save(1);
        for (int i = 0; i < 6; i++) {
            x.addThreat(0, i < 3 ? Due.set(2, 3) : Due.set(2));
        }
        for (int i = 0; i < 100; i++) {
            x.append(i % 2 == 0 ? 'a' : '1');
        }
        return x;
    }

    private static final Start[] STARTS = {ErrorBoundsTest::empty, ErrorBoundsTest::midst, ErrorBoundsTest::won,
        ErrorBoundsTest::full};

    // ---- calls that are refused

    private static void add(List<Refused> calls, String name, long error, Call call) {
        calls.add(new Refused(name, error, call));
    }

    /** These are refused whatever the position is. */
    private static List<Refused> refusedAlways() {
        List<Refused> calls = new ArrayList<>();
        for (int rows : new int[] {1, 8, MIN, MAX}) {
            add(calls, "begin(" + rows + ")", Due.BAD_VALUE, x -> x.begin(rows));
            add(calls, "winningOpenings(" + rows + ")", Due.BAD_VALUE, x -> x.winningOpenings(rows));
        }
        for (int cell : new int[] {-1, 49, MIN, MAX}) {
            add(calls, "play(" + cell + ")", Due.BAD_INDEX, x -> x.play(cell));
            add(calls, "moveAt(" + cell + ")", Due.BAD_INDEX, x -> x.moveAt(cell));
            add(calls, "beside(" + cell + ")", Due.BAD_INDEX, x -> x.beside(cell));
            add(calls, "chainOf(" + cell + ")", Due.BAD_INDEX, x -> x.chainOf(cell));
            add(calls, "chain(" + cell + ")", Due.BAD_INDEX, x -> x.chain(cell));
            add(calls, "weight(" + cell + ")", Due.BAD_INDEX, x -> x.weight(cell));
            add(calls, "bridge(0, " + cell + ", 0)", Due.BAD_INDEX, x -> x.bridge(0, cell, 0));
        }
        for (int player : Due.NOT_0_OR_1) {
            refusedForNoPlayer(calls, player);
            add(calls, "save(" + player + ")", Due.BAD_INDEX, x -> x.save(player));
            add(calls, "restore(" + player + ")", Due.BAD_INDEX, x -> x.restore(player));
        }
        refusedRegions(calls);
        add(calls, "randomGames(-1, 1)", Due.BAD_VALUE, x -> x.randomGames(-1, 1));
        add(calls, "randomGames(0, 0)", Due.BAD_VALUE, x -> x.randomGames(0, 0));
        add(calls, "randomGames(0, 51)", Due.BAD_VALUE, x -> x.randomGames(0, 51));
        add(calls, "append(-1)", Due.BAD_VALUE, x -> x.append(-1));
        add(calls, "append(128)", Due.BAD_VALUE, x -> x.append(128));
        return calls;
    }

    private static void refusedForNoPlayer(List<Refused> calls, int player) {
        add(calls, "stones(" + player + ")", Due.BAD_INDEX, x -> x.stones(player));
        add(calls, "chains(" + player + ")", Due.BAD_INDEX, x -> x.chains(player));
        add(calls, "distance(" + player + ")", Due.BAD_INDEX, x -> x.distance(player));
        add(calls, "shortest(" + player + ")", Due.BAD_INDEX, x -> x.shortest(player));
        add(calls, "cut(" + player + ")", Due.BAD_INDEX, x -> x.cut(player));
        add(calls, "bridges(" + player + ")", Due.BAD_INDEX, x -> x.bridges(player));
        add(calls, "bridge(" + player + ", 0, 0)", Due.BAD_INDEX, x -> x.bridge(player, 0, 0));
        add(calls, "fillings(" + player + ")", Due.BAD_INDEX, x -> x.fillings(player));
        add(calls, "strength(" + player + ", ..)", Due.BAD_INDEX, x -> x.strength(player, -1, -2, 0));
        add(calls, "smallestFull(" + player + ", ..)", Due.BAD_INDEX, x -> x.smallestFull(player, -1, -2, 0));
        add(calls, "addThreat(" + player + ", 0)", Due.BAD_INDEX, x -> x.addThreat(player, 0));
        add(calls, "threats(" + player + ")", Due.BAD_INDEX, x -> x.threats(player));
        add(calls, "needed(" + player + ")", Due.BAD_INDEX, x -> x.needed(player));
    }

    private static void refusedRegions(List<Refused> calls) {
        for (int place : new int[] {-5, 49, MIN, MAX}) {
            add(calls, "strength(0, " + place + ", ..)", Due.BAD_INDEX, x -> x.strength(0, place, -2, 0));
            add(calls, "strength(0, -1, " + place + ", 0)", Due.BAD_INDEX, x -> x.strength(0, -1, place, 0));
            add(calls, "smallestFull(0, " + place + ", ..)", Due.BAD_INDEX, x -> x.smallestFull(0, place, -2, 0));
            add(calls, "smallestFull(0, -1, " + place + ", 0)", Due.BAD_INDEX,
                    x -> x.smallestFull(0, -1, place, 0));
        }
        add(calls, "strength(0, -1, -1, 0)", Due.BAD_INDEX, x -> x.strength(0, -1, -1, 0));
        add(calls, "smallestFull(1, 3, 3, 0)", Due.BAD_INDEX, x -> x.smallestFull(1, 3, 3, 0));
        for (long region : new long[] {1L << 49, Long.MIN_VALUE, -1}) {
            add(calls, "strength(0, -1, -2, " + region + ")", Due.BAD_VALUE, x -> x.strength(0, -1, -2, region));
            add(calls, "smallestFull(0, -1, -2, " + region + ")", Due.BAD_VALUE,
                    x -> x.smallestFull(0, -1, -2, region));
            add(calls, "addThreat(0, " + region + ")", Due.BAD_VALUE, x -> x.addThreat(0, region));
        }
    }

    private static List<Refused> refusedWhenEmpty() {
        List<Refused> calls = new ArrayList<>();
        add(calls, "swap()", Due.NOT_POSSIBLE, x -> x.swap());
        add(calls, "takeBack()", Due.NOT_POSSIBLE, x -> x.takeBack());
        add(calls, "again()", Due.NOT_POSSIBLE, x -> x.again());
        add(calls, "moveAt(0)", Due.BAD_INDEX, x -> x.moveAt(0));
        add(calls, "play(25)", Due.BAD_INDEX, x -> x.play(25));
        add(calls, "chain(0)", Due.BAD_INDEX, x -> x.chain(0));
        add(calls, "bridge(0, 0, 0)", Due.BAD_INDEX, x -> x.bridge(0, 0, 0));
        add(calls, "fillings(0)", Due.NOT_POSSIBLE, x -> x.fillings(0));
        add(calls, "weight(0)", Due.NOT_POSSIBLE, x -> x.weight(0));
        add(calls, "dead()", Due.NOT_POSSIBLE, x -> x.dead());
        add(calls, "solve()", Due.NOT_POSSIBLE, x -> x.solve());
        add(calls, "winningMoves()", Due.NOT_POSSIBLE, x -> x.winningMoves());
        add(calls, "duration()", Due.NOT_POSSIBLE, x -> x.duration());
        add(calls, "strength of 9 cells", Due.BAD_VALUE, x -> x.strength(0, -1, -2, 511));
        add(calls, "smallestFull of 7 cells", Due.BAD_VALUE, x -> x.smallestFull(0, -1, -2, 127));
        add(calls, "addThreat(0, 0)", Due.NOT_POSSIBLE, x -> x.addThreat(0, 0));
        add(calls, "addThreat of 9 cells", Due.BAD_VALUE, x -> x.addThreat(0, 511));
        add(calls, "restore(0)", Due.NOT_POSSIBLE, x -> x.restore(0));
        add(calls, "restore(1)", Due.NOT_POSSIBLE, x -> x.restore(1));
        return calls;
    }

    private static List<Refused> refusedInTheMidst() {
        List<Refused> calls = new ArrayList<>();
        add(calls, "play(5), an own stone", Due.NOT_POSSIBLE, x -> x.play(5));
        add(calls, "play(15), another stone", Due.NOT_POSSIBLE, x -> x.play(15));
        add(calls, "play(16)", Due.BAD_INDEX, x -> x.play(16));
        add(calls, "swap()", Due.NOT_POSSIBLE, x -> x.swap());
        add(calls, "moveAt(4)", Due.BAD_INDEX, x -> x.moveAt(4));
        add(calls, "chain(1)", Due.BAD_INDEX, x -> x.chain(1));
        add(calls, "bridge(0, 1, 0)", Due.BAD_INDEX, x -> x.bridge(0, 1, 0));
        add(calls, "bridge(0, 0, 4)", Due.BAD_VALUE, x -> x.bridge(0, 0, 4));
        add(calls, "bridge(0, 0, -1)", Due.BAD_VALUE, x -> x.bridge(0, 0, -1));
        add(calls, "weight(5)", Due.BAD_INDEX, x -> x.weight(5));
        add(calls, "solve()", Due.NOT_POSSIBLE, x -> x.solve());
        add(calls, "winningMoves()", Due.NOT_POSSIBLE, x -> x.winningMoves());
        add(calls, "duration()", Due.NOT_POSSIBLE, x -> x.duration());
        add(calls, "strength with a stone", Due.BAD_VALUE, x -> x.strength(0, -1, -2, Due.set(1, 5)));
        add(calls, "addThreat with a stone", Due.BAD_VALUE, x -> x.addThreat(0, Due.set(1, 15)));
        add(calls, "addThreat, not half", Due.NOT_POSSIBLE, x -> x.addThreat(1, Due.set(1, 2)));
        add(calls, "restore(1)", Due.NOT_POSSIBLE, x -> x.restore(1));
        return calls;
    }

    private static List<Refused> refusedWhenWon() {
        List<Refused> calls = new ArrayList<>();
        add(calls, "play(3)", Due.NOT_POSSIBLE, x -> x.play(3));
        add(calls, "play(4)", Due.BAD_INDEX, x -> x.play(4));
        add(calls, "swap()", Due.NOT_POSSIBLE, x -> x.swap());
        add(calls, "again()", Due.NOT_POSSIBLE, x -> x.again());
        add(calls, "read()", Due.NOT_POSSIBLE, x -> x.read());
        add(calls, "restore(0)", Due.NOT_POSSIBLE, x -> x.restore(0));
        add(calls, "addThreat(1, 8)", Due.NOT_POSSIBLE, x -> x.addThreat(1, Due.set(3)));
        return calls;
    }

    private static List<Refused> refusedWhenFull() {
        List<Refused> calls = new ArrayList<>();
        add(calls, "append(97)", Due.FULL, x -> x.append(97));
        add(calls, "append(0)", Due.FULL, x -> x.append(0));
        add(calls, "addThreat(0, 4)", Due.FULL, x -> x.addThreat(0, Due.set(2)));
        add(calls, "addThreat(0, 12)", Due.FULL, x -> x.addThreat(0, Due.set(2, 3)));
        add(calls, "read()", Due.NOT_POSSIBLE, x -> x.read());
        return calls;
    }

    private static List<List<Refused>> refusedInPositions() {
        return List.of(refusedWhenEmpty(), refusedInTheMidst(), refusedWhenWon(), refusedWhenFull());
    }

    // ---- the section "Errors"

    static void errorsAreNegativeConstants() {
        Due.is("BAD_INDEX", HexWorkbench.BAD_INDEX, -11);
        Due.is("BAD_VALUE", HexWorkbench.BAD_VALUE, -12);
        Due.is("NOT_POSSIBLE", HexWorkbench.NOT_POSSIBLE, -13);
        Due.is("FULL", HexWorkbench.FULL, -14);
        for (Start start : STARTS) {
            HexWorkbench x = start.make();
            for (Refused refused : refusedAlways()) {
                Due.is(refused.name(), refused.call().on(x), refused.error());
            }
        }
        for (int i = 0; i < STARTS.length; i++) {
            HexWorkbench x = STARTS[i].make();
            for (Refused refused : refusedInPositions().get(i)) {
                Due.is("position " + i + ": " + refused.name(), refused.call().on(x), refused.error());
            }
        }
    }

    static void errorsChangeNothing() {
        for (int i = 0; i < STARTS.length; i++) {
            String before = Trace.of(STARTS[i].make());
            List<Refused> calls = new ArrayList<>(refusedAlways());
            calls.addAll(refusedInPositions().get(i));
            for (Refused refused : calls) {
                HexWorkbench x = STARTS[i].make();
                refused.call().on(x);
                Due.same("position " + i + " after " + refused.name(), Trace.of(x), before);
            }
        }
    }

    /** A trace that can't tell two states from each other would make the test above worth nothing. */
    static void tracesTellWhatChanged() {
        String before = Trace.of(midst());
        Call[] changes = {x -> x.begin(4), x -> x.play(1), x -> x.takeBack(), x -> x.again(), x -> x.clearThreats(),
            x -> x.addThreat(0, Due.set(1, 2, 6, 9, 13, 14)), x -> x.append('c'), x -> x.clearText(), x -> x.read(),
            x -> x.save(0), x -> x.save(1), x -> x.restore(0)};
        for (int i = 0; i < changes.length; i++) {
            HexWorkbench x = midst();
            changes[i].on(x);
            Due.holds("change " + i + " is seen", !Trace.of(x).equals(before));
        }
    }

    static void theOrderOfTheChecks() {
        HexWorkbench won = won();
        Due.is("play: no cell, and won", won.play(4), Due.BAD_INDEX);
        HexWorkbench empty = empty();
        Due.is("bridge: no bridge, and a wrong what", empty.bridge(0, 0, 9), Due.BAD_INDEX);
        Due.is("fillings: no player, and too many cells", empty.fillings(2), Due.BAD_INDEX);
        Due.is("weight: no cell, and too many cells", empty.weight(25), Due.BAD_INDEX);
        HexWorkbench stone = Due.game(5, 12);
        Due.is("weight: not empty, and too many cells", stone.weight(12), Due.BAD_INDEX);
        Due.is("strength: no player, and a wrong region", empty.strength(2, -1, -2, -1), Due.BAD_INDEX);
        Due.is("strength: no place, and a wrong region", empty.strength(0, -1, 25, -1), Due.BAD_INDEX);
        Due.is("strength: the same places, and a wrong region", empty.strength(0, 3, 3, -1), Due.BAD_INDEX);
        Due.is("smallestFull: no player, and a wrong region", empty.smallestFull(2, -1, -2, -1), Due.BAD_INDEX);
        Due.is("smallestFull: no place, and 7 cells", empty.smallestFull(0, -5, -2, 127), Due.BAD_INDEX);
        Due.is("smallestFull: the same places, and 7 cells", empty.smallestFull(0, 3, 3, 127), Due.BAD_INDEX);
        HexWorkbench full = full();
        Due.is("append: a wrong letter, and full", full.append(128), Due.BAD_VALUE);
        Due.is("addThreat: no player, a wrong region, and full", full.addThreat(2, -1), Due.BAD_INDEX);
        Due.is("addThreat: a wrong region, not half, and full", full.addThreat(0, Due.set(1)), Due.BAD_VALUE);
        Due.is("addThreat: not half, and full", full.addThreat(0, Due.set(0)), Due.NOT_POSSIBLE);
        Due.is("addThreat: full", full.addThreat(0, Due.set(2)), Due.FULL);
        Due.is("restore: no slot, and nothing saved", empty.restore(2), Due.BAD_INDEX);
    }

    static void noneOnlyIfThereIsNoError() {
        HexWorkbench won = Due.game(2, 0, 1, 2);
        Due.is("chainOf: no cell, and no stone", won.chainOf(4), Due.BAD_INDEX);
        Due.is("chainOf: no stone", won.chainOf(3), Due.NONE);
        Due.is("distance: no player, and no connection", won.distance(2), Due.BAD_INDEX);
        Due.is("distance: no connection", won.distance(1), Due.NONE);
        Due.is("shortest: no player, and no connection", won.shortest(-1), Due.BAD_INDEX);
        Due.is("shortest: no connection", won.shortest(1), Due.NONE);
        Due.is("cut: no player, and won", won.cut(2), Due.BAD_INDEX);
        Due.is("cut: won", won.cut(0), Due.NONE);
        Due.is("needed: no player, and no threat", won.needed(2), Due.BAD_INDEX);
        Due.is("needed: no threat", won.needed(0), Due.NONE);
        HexWorkbench empty = empty();
        Due.is("smallestFull: 7 cells, and no subset", empty.smallestFull(0, -1, -2, 127), Due.BAD_VALUE);
        Due.is("smallestFull: no place, and no subset", empty.smallestFull(0, 25, -2, 1), Due.BAD_INDEX);
        Due.is("smallestFull: no subset", empty.smallestFull(0, -1, -2, 63), Due.NONE);
        Due.is("winner: nobody", empty.winner(), Due.NONE);
        Due.is("faultPosition: no fault", empty.faultPosition(), Due.NONE);
    }

    // ---- what holds for all calls

    private static List<Named> questions() {
        List<Named> calls = new ArrayList<>();
        calls.add(new Named("rows()", x -> x.rows()));
        calls.add(new Named("moves()", x -> x.moves()));
        calls.add(new Named("moveAt(0)", x -> x.moveAt(0)));
        calls.add(new Named("turn()", x -> x.turn()));
        calls.add(new Named("winner()", x -> x.winner()));
        calls.add(new Named("beside(0)", x -> x.beside(0)));
        calls.add(new Named("chainOf(0)", x -> x.chainOf(0)));
        calls.add(new Named("chain(0)", x -> x.chain(0)));
        calls.add(new Named("answers()", x -> x.answers()));
        calls.add(new Named("weight(3)", x -> x.weight(3)));
        calls.add(new Named("dead()", x -> x.dead()));
        calls.add(new Named("solve()", x -> x.solve()));
        calls.add(new Named("winningMoves()", x -> x.winningMoves()));
        calls.add(new Named("duration()", x -> x.duration()));
        calls.add(new Named("winningOpenings(2)", x -> x.winningOpenings(2)));
        calls.add(new Named("winningOpenings(3)", x -> x.winningOpenings(3)));
        calls.add(new Named("randomGames(1, 50)", x -> x.randomGames(1, 50)));
        calls.add(new Named("faultPosition()", x -> x.faultPosition()));
        calls.add(new Named("checksum()", x -> x.checksum()));
        for (int player = 0; player < 2; player++) {
            questionsOf(calls, player);
        }
        return calls;
    }

    private static void questionsOf(List<Named> calls, int player) {
        calls.add(new Named("stones(" + player + ")", x -> x.stones(player)));
        calls.add(new Named("chains(" + player + ")", x -> x.chains(player)));
        calls.add(new Named("distance(" + player + ")", x -> x.distance(player)));
        calls.add(new Named("shortest(" + player + ")", x -> x.shortest(player)));
        calls.add(new Named("cut(" + player + ")", x -> x.cut(player)));
        calls.add(new Named("bridges(" + player + ")", x -> x.bridges(player)));
        calls.add(new Named("bridge(" + player + ", 0, 3)", x -> x.bridge(player, 0, 3)));
        calls.add(new Named("fillings(" + player + ")", x -> x.fillings(player)));
        calls.add(new Named("strength(" + player + ", -1, -2, 8)", x -> x.strength(player, -1, -2, 8)));
        calls.add(new Named("smallestFull(" + player + ", -3, 3, 8)", x -> x.smallestFull(player, -3, 3, 8)));
        calls.add(new Named("threats(" + player + ")", x -> x.threats(player)));
        calls.add(new Named("needed(" + player + ")", x -> x.needed(player)));
    }

    /** Calls of which the document tells no change make none, and answer the same when they are made again. */
    static void questionsChangeNothing() {
        for (int i = 0; i < STARTS.length; i++) {
            String before = Trace.of(STARTS[i].make());
            for (Named question : questions()) {
                HexWorkbench x = STARTS[i].make();
                long first = question.call().on(x);
                Due.is("position " + i + ": " + question.name() + " again", question.call().on(x), first);
                Due.same("position " + i + " after " + question.name(), Trace.of(x), before);
            }
        }
    }

    /** What one call leaves in the rows that calls share must not be seen by the next one. */
    static void questionsDoNotDisturbEachOther() {
        List<Named> questions = questions();
        for (Start start : STARTS) {
            HexWorkbench fresh = start.make();
            for (Named second : questions) {
                long want = second.call().on(start.make());
                for (Named first : questions) {
                    first.call().on(fresh);
                    Due.is(second.name() + " after " + first.name(), second.call().on(fresh), want);
                }
                fresh = start.make();
            }
        }
    }

    /** An object is used for 512 calls; the dearest ones are among them. */
    static void fiveHundredTwelveCalls() {
        List<Named> questions = questions();
        HexWorkbench x = midst();
        long[] first = new long[questions.size()];
        for (int i = 0; i < questions.size(); i++) {
            first[i] = questions.get(i).call().on(x);
        }
        // midst() takes 20 calls.
        for (int call = 20 + questions.size(); call < 512; call++) {
            int i = call % questions.size();
            Due.is("call " + call + ", " + questions.get(i).name(), questions.get(i).call().on(x), first[i]);
        }
    }
}
