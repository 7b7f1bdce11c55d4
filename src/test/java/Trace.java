/** Everything that can be seen of a workbench by calling it, as a text. */
final class Trace {
    private final HexWorkbench x;
    private final StringBuilder seen = new StringBuilder();

    private Trace(HexWorkbench x) {
        this.x = x;
    }

    /** Uses the workbench up: it is of no use afterwards, since looking at some things changes them. */
    static String of(HexWorkbench x) {
        Trace trace = new Trace(x);
        trace.add("rows", x.rows());
        trace.game();
        trace.threats();
        trace.movesTakenBack();
        trace.threats();
        trace.add("cleared", x.clearThreats());
        for (int slot = 0; slot < 2; slot++) {
            trace.add("slot", x.restore(slot));
            trace.add("rows", x.rows());
            trace.game();
            trace.movesTakenBack();
        }
        trace.text();
        return trace.seen.toString();
    }

    private void add(String name, long value) {
        seen.append(' ').append(name).append(' ').append(value);
    }

    private void game() {
        for (int i = 0; i < x.moves(); i++) {
            add("move", x.moveAt(i));
        }
        add("turn", x.turn());
        add("checksum", x.checksum());
    }

    private void threats() {
        for (int player = 0; player < 2; player++) {
            add("threats", x.threats(player));
            add("needed", x.needed(player));
        }
    }

    private void movesTakenBack() {
        for (int i = 0; i < 51; i++) {
            int move = x.again();
            add("again", move);
            if (move < 0) {
                return;
            }
            add("move", x.moveAt(move));
        }
    }

    /** The bytes themselves can't be seen, but what they are on the boards of all sizes. */
    private void text() {
        for (int rows = 2; rows <= 7; rows++) {
            x.begin(rows);
            add("fault", x.faultPosition());
            add("read", x.read());
            game();
        }
        add("length", x.clearText());
    }
}
