/** Counts and prints the calls whose answer is not the one that is due. */
final class Due {
    private static int wrong = 0;
    private static int checked = 0;

    private Due() {
    }

    static void is(String call, long got, long want) {
        checked++;
        if (got != want) {
            wrong++;
            System.out.println(call + " answered " + got + ", due is " + want);
        }
    }

    static void holds(String what, boolean so) {
        checked++;
        if (!so) {
            wrong++;
            System.out.println("does not hold: " + what);
        }
    }

    static boolean anyWrong() {
        return wrong != 0;
    }

    static void end() {
        System.out.println(checked + " checked, " + wrong + " wrong");
        if (wrong != 0) {
            System.exit(1);
        }
    }

    /** A workbench with a board of so many rows and these moves; -16 is a swap. */
    static HexWorkbench game(int rows, int... moves) {
        HexWorkbench x = new HexWorkbench();
        x.begin(rows);
        for (int i = 0; i < moves.length; i++) {
            if (moves[i] == HexWorkbench.SWAP) {
                holds("swap() is possible", x.swap() >= 0);
            } else {
                is("play(" + moves[i] + ")", x.play(moves[i]), i);
            }
        }
        return x;
    }

    /** Appends all bytes of the text. */
    static void append(HexWorkbench x, String text) {
        for (int i = 0; i < text.length(); i++) {
            x.append(text.charAt(i));
        }
    }

    static long set(int... cells) {
        long set = 0;
        for (int cell : cells) {
            set |= 1L << cell;
        }
        return set;
    }
}
