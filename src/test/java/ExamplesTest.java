/** The five examples of the document's section "Description". */
final class ExamplesTest {
    public static void main(String[] args) {
        swapDistancesTakenBack();
        threeRowsSolved();
        bridgesAndChains();
        regionsAndThreats();
        gameFromText();
        Due.end();
    }

    private static void swapDistancesTakenBack() {
        HexWorkbench x = new HexWorkbench();
        Due.is("1: play(12)", x.play(12), 0);
        Due.is("1: swap()", x.swap(), 12);
        Due.is("1: moveAt(1)", x.moveAt(1), -16);
        Due.is("1: turn()", x.turn(), 0);
        Due.is("1: play(7)", x.play(7), 2);
        Due.is("1: distance(0)", x.distance(0), 4);
        Due.is("1: distance(1)", x.distance(1), 4);
        Due.is("1: cut(0)", x.cut(0), 4);
        Due.is("1: shortest(1)", x.shortest(1), 1175312);
        Due.is("1: chains(1)", x.chains(1), 1);
        Due.is("1: chainOf(3)", x.chainOf(3), -15);
        Due.is("1: takeBack()", x.takeBack(), 2);
        Due.is("1: again()", x.again(), 2);
        Due.is("1: swap()", x.swap(), -13);
    }

    private static void threeRowsSolved() {
        HexWorkbench x = new HexWorkbench();
        Due.is("2: begin(3)", x.begin(3), 5);
        Due.is("2: winningOpenings(2)", x.winningOpenings(2), 6);
        Due.is("2: winningOpenings(3)", x.winningOpenings(3), 124);
        Due.is("2: solve()", x.solve(), 0);
        Due.is("2: play(4)", x.play(4), 0);
        Due.is("2: duration()", x.duration(), 4);
        Due.is("2: fillings(0)", x.fillings(0), 169);
        Due.is("2: weight(0)", x.weight(0), 13);
        Due.is("2: dead()", x.dead(), 0);
        Due.is("2: winningMoves()", x.winningMoves(), 0);
        Due.is("2: play(4)", x.play(4), -13);
        Due.is("2: begin(8)", x.begin(8), -12);
    }

    private static void bridgesAndChains() {
        HexWorkbench x = new HexWorkbench();
        Due.is("3: begin(4)", x.begin(4), 5);
        Due.is("3: play(5)", x.play(5), 0);
        Due.is("3: play(0)", x.play(0), 1);
        Due.is("3: play(12)", x.play(12), 2);
        Due.is("3: bridges(0)", x.bridges(0), 1);
        Due.is("3: play(1)", x.play(1), 3);
        Due.is("3: play(8)", x.play(8), 4);
        Due.is("3: chains(0)", x.chains(0), 1);
        Due.is("3: winner()", x.winner(), -15);
        Due.is("3: distance(0)", x.distance(0), 1);
        Due.is("3: answers()", x.answers(), 0);
    }

    private static void regionsAndThreats() {
        HexWorkbench x = new HexWorkbench();
        Due.is("4: begin(4)", x.begin(4), 5);
        Due.is("4: play(9)", x.play(9), 0);
        Due.is("4: strength(0, 9, -2, 12288)", x.strength(0, 9, -2, 12288), 2);
        Due.is("4: strength(0, 9, -2, 4096)", x.strength(0, 9, -2, 4096), 1);
        Due.is("4: smallestFull(0, 9, -2, 28672)", x.smallestFull(0, 9, -2, 28672), 2);
        Due.is("4: addThreat(0, 12304)", x.addThreat(0, 12304), -13);
        Due.is("4: addThreat(0, 12300)", x.addThreat(0, 12300), -13);
        Due.is("4: needed(0)", x.needed(0), -15);
        Due.is("4: strength(0, 9, 9, 0)", x.strength(0, 9, 9, 0), -11);
        Due.is("4: strength(0, -1, -2, 512)", x.strength(0, -1, -2, 512), -12);
    }

    private static void gameFromText() {
        HexWorkbench x = new HexWorkbench();
        Due.is("5: append(99)", x.append(99), 1);
        Due.is("5: append(51)", x.append(51), 2);
        Due.is("5: append(83)", x.append(83), 3);
        Due.is("5: append(98)", x.append(98), 4);
        Due.is("5: append(50)", x.append(50), 5);
        Due.is("5: faultPosition()", x.faultPosition(), -15);
        Due.is("5: read()", x.read(), 3);
        Due.is("5: moveAt(1)", x.moveAt(1), -16);
        Due.is("5: append(102)", x.append(102), 6);
        Due.is("5: faultPosition()", x.faultPosition(), 5);
        Due.is("5: read()", x.read(), -13);
        Due.is("5: restore(0)", x.restore(0), -13);
        Due.is("5: save(0)", x.save(0), 3);
    }
}
