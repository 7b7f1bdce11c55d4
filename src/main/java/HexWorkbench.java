/**
 * A workbench for the connection game Hex.
 *
 * <p>Sets of cells are longs throughout: bit k stands for cell k.
 */
public final class HexWorkbench {
    public static final int BAD_INDEX = -11;
    public static final int BAD_VALUE = -12;
    public static final int NOT_POSSIBLE = -13;
    public static final int FULL = -14;
    public static final int NONE = -15;
    public static final int SWAP = -16;

    private static final int FIRST_ROWS = 5;
    private static final int MIN_ROWS = 2;
    private static final int MAX_ROWS = 7;
    private static final int MAX_CELLS = 49;
    /** One more than the cells, since a swap is a move that adds no stone. */
    private static final int MAX_MOVES = 50;
    /** From a stone, at most three of the six bridge directions lead to a higher cell. */
    private static final int MAX_BRIDGES = 3 * MAX_CELLS;
    private static final int MAX_FILLED = 12;
    private static final int MAX_SOLVED = 9;
    private static final int MAX_REGION = 8;
    private static final int MAX_SEARCHED_REGION = 6;
    private static final int MAX_THREATS = 6;
    private static final int MAX_GAMES = 50;
    private static final int MAX_TEXT = 100;
    private static final int MAX_LETTER = 127;
    private static final int SLOTS = 2;
    private static final int LOWEST_PLACE = -4;

    private final Game game;
    private final Game trial;
    private final Game[] slots = new Game[SLOTS];
    private final Paths paths = new Paths();
    private final Fillings table = new Fillings();
    private final Contest contest;
    /** The bridges found last, each as its lower stone times 64 plus its higher stone. */
    private final int[] foundBridges = new int[MAX_BRIDGES];
    private final int[] threatPlayers = new int[MAX_THREATS];
    private final long[] threatRegions = new long[MAX_THREATS];
    private int threatCount;
    private final byte[] text = new byte[MAX_TEXT];
    private int textLength;

    public HexWorkbench() {
        Board board = new Board(FIRST_ROWS);
        game = new Game(board);
        trial = new Game(board);
        contest = new Contest(board);
    }

    // ---- games

    public int begin(int rows) {
        if (rows < MIN_ROWS || rows > MAX_ROWS) {
            return BAD_VALUE;
        }
        int before = game.board.size;
        game.start(new Board(rows));
        threatCount = 0;
        return before;
    }

    public int rows() {
        return game.board.size;
    }

    public int play(int cell) {
        if (!isCell(cell)) {
            return BAD_INDEX;
        }
        if (!game.isFree(cell) || game.victor() != NONE) {
            return NOT_POSSIBLE;
        }
        game.add(cell);
        return game.made - 1;
    }

    public int swap() {
        if (!game.maySwap()) {
            return NOT_POSSIBLE;
        }
        game.add(SWAP);
        return lowest(game.stonesOf(1));
    }

    public int takeBack() {
        if (game.made == 0) {
            return NOT_POSSIBLE;
        }
        game.undo();
        return game.made;
    }

    public int again() {
        if (game.made == game.known) {
            return NOT_POSSIBLE;
        }
        game.redo();
        return game.made - 1;
    }

    public int moves() {
        return game.made;
    }

    public int moveAt(int index) {
        if (index < 0 || index >= game.made) {
            return BAD_INDEX;
        }
        return game.moveNumber(index);
    }

    public int turn() {
        return game.mover();
    }

    public int winner() {
        return game.victor();
    }

    public long stones(int player) {
        if (!isPlayer(player)) {
            return BAD_INDEX;
        }
        return game.stonesOf(player);
    }

    // ---- chains, distances, bridges

    public long beside(int cell) {
        if (!isCell(cell)) {
            return BAD_INDEX;
        }
        return game.board.around(1L << cell);
    }

    public int chains(int player) {
        if (!isPlayer(player)) {
            return BAD_INDEX;
        }
        long rest = game.stonesOf(player);
        int count = 0;
        for (int i = 0; i < MAX_CELLS && rest != 0; i++) {
            rest &= ~game.board.flood(rest & -rest, rest);
            count++;
        }
        return count;
    }

    public int chainOf(int cell) {
        if (!isCell(cell)) {
            return BAD_INDEX;
        }
        long set = chainAround(cell);
        return set == 0 ? NONE : lowest(set);
    }

    public long chain(int chain) {
        if (!isCell(chain)) {
            return BAD_INDEX;
        }
        long set = chainAround(chain);
        return set != 0 && lowest(set) == chain ? set : BAD_INDEX;
    }

    public int distance(int player) {
        if (!isPlayer(player)) {
            return BAD_INDEX;
        }
        return paths.measure(game, player);
    }

    public long shortest(int player) {
        if (!isPlayer(player)) {
            return BAD_INDEX;
        }
        return paths.onShortest(game, player);
    }

    /**
     * A set of cells leaves a player no connection exactly if, with it, the other player has won:
     * on a full board exactly one player has. So the smallest such set is as large as the shortest
     * connection of the other player, and there is none exactly if the player has won.
     */
    public int cut(int player) {
        if (!isPlayer(player)) {
            return BAD_INDEX;
        }
        return paths.measure(game, 1 - player);
    }

    public int bridges(int player) {
        if (!isPlayer(player)) {
            return BAD_INDEX;
        }
        return findBridges(game.stonesOf(player), game.free());
    }

    public int bridge(int player, int bridge, int what) {
        if (!isPlayer(player) || bridge < 0) {
            return BAD_INDEX;
        }
        int count = findBridges(game.stonesOf(player), game.free());
        if (bridge >= count || bridge >= MAX_BRIDGES) {
            return BAD_INDEX;
        }
        int found = foundBridges[bridge];
        long carrier = carrierOf(found);
        switch (what) {
            case 0:
                return found >>> 6;
            case 1:
                return found & 63;
            case 2:
                return lowest(carrier);
            case 3:
                return lowest(carrier & (carrier - 1));
            default:
                return BAD_VALUE;
        }
    }

    public long answers() {
        int last = game.latest();
        if (last < 0) {
            return 0;
        }
        long cell = 1L << last;
        // The player to move now is the one whose bridges the latest move may have entered.
        int count = findBridges(game.stonesOf(game.mover()), game.free() | cell);
        long set = 0;
        for (int i = 0; i < count && i < MAX_BRIDGES; i++) {
            long carrier = carrierOf(foundBridges[i]);
            if ((carrier & cell) != 0) {
                set |= carrier & ~cell;
            }
        }
        return set;
    }

    // ---- fillings

    public int fillings(int player) {
        if (!isPlayer(player)) {
            return BAD_INDEX;
        }
        if (!hasFreeAtMost(MAX_FILLED)) {
            return NOT_POSSIBLE;
        }
        table.compute(game);
        int first = table.wonByFirst();
        return player == 0 ? first : table.size() - first;
    }

    public int weight(int cell) {
        if (!isCell(cell) || !game.isFree(cell)) {
            return BAD_INDEX;
        }
        if (!hasFreeAtMost(MAX_FILLED)) {
            return NOT_POSSIBLE;
        }
        table.compute(game);
        return table.decidedBy(Long.bitCount(game.free() & ((1L << cell) - 1)));
    }

    public long dead() {
        if (!hasFreeAtMost(MAX_FILLED)) {
            return NOT_POSSIBLE;
        }
        table.compute(game);
        long rest = game.free();
        long set = 0;
        for (int i = 0; i < MAX_FILLED && rest != 0; i++) {
            if (table.decidedBy(i) == 0) {
                set |= rest & -rest;
            }
            rest &= rest - 1;
        }
        return set;
    }

    // ---- solving

    public int solve() {
        if (!hasFreeAtMost(MAX_SOLVED)) {
            return NOT_POSSIBLE;
        }
        return Contest.connects(outcomeOfGame()) ? 0 : 1;
    }

    public long winningMoves() {
        if (!hasFreeAtMost(MAX_SOLVED)) {
            return NOT_POSSIBLE;
        }
        Board board = game.board;
        contest.arrange(board, board.upper, board.lower, game.free());
        return contest.winningSpots(game.stonesOf(0), game.free(), game.mover() == 0);
    }

    public int duration() {
        if (!hasFreeAtMost(MAX_SOLVED)) {
            return NOT_POSSIBLE;
        }
        return Contest.length(outcomeOfGame());
    }

    public long winningOpenings(int rows) {
        if (rows < 2 || rows > 3) {
            return BAD_VALUE;
        }
        Board board = new Board(rows);
        contest.arrange(board, board.upper, board.lower, board.all);
        return contest.winningSpots(0, board.all, true);
    }

    // ---- regions and threats

    public int strength(int player, int from, int to, long region) {
        int error = regionError(player, from, to, region, MAX_REGION);
        if (error < 0) {
            return error;
        }
        if (canConnect(player, from, to, region, false)) {
            return 2;
        }
        return canConnect(player, from, to, region, true) ? 1 : 0;
    }

    public int smallestFull(int player, int from, int to, long region) {
        int error = regionError(player, from, to, region, MAX_SEARCHED_REGION);
        if (error < 0) {
            return error;
        }
        int best = MAX_SEARCHED_REGION + 1;
        int subsets = 1 << Long.bitCount(region);
        long subset = 0;
        for (int i = 0; i < subsets; i++) {
            int size = Long.bitCount(subset);
            if (size < best && canConnect(player, from, to, subset, false)) {
                best = size;
            }
            subset = nextSubset(subset, region);
        }
        return best <= MAX_SEARCHED_REGION ? best : NONE;
    }

    public int addThreat(int player, long region) {
        int from = player == 0 ? -1 : -3;
        int to = player == 0 ? -2 : -4;
        int error = regionError(player, from, to, region, MAX_REGION);
        if (error < 0) {
            return error;
        }
        if (!canConnect(player, from, to, region, true)) {
            return NOT_POSSIBLE;
        }
        if (threatCount >= MAX_THREATS) {
            return FULL;
        }
        threatPlayers[threatCount] = player;
        threatRegions[threatCount] = region;
        threatCount++;
        return threatCount;
    }

    public int clearThreats() {
        int before = threatCount;
        threatCount = 0;
        return before;
    }

    public int threats(int player) {
        if (!isPlayer(player)) {
            return BAD_INDEX;
        }
        int count = 0;
        for (int i = 0; i < MAX_THREATS; i++) {
            if (isValidThreat(i, player)) {
                count++;
            }
        }
        return count;
    }

    public long needed(int player) {
        if (!isPlayer(player)) {
            return BAD_INDEX;
        }
        boolean any = false;
        long set = game.free();
        for (int i = 0; i < MAX_THREATS; i++) {
            if (isValidThreat(i, player)) {
                any = true;
                set &= threatRegions[i];
            }
        }
        return any ? set : NONE;
    }

    // ---- random games

    public int randomGames(int start, int games) {
        if (start < 0 || games < 1 || games > MAX_GAMES) {
            return BAD_VALUE;
        }
        Board board = game.board;
        long state = start;
        int won = 0;
        for (int i = 0; i < games; i++) {
            long own = game.stonesOf(0);
            long free = game.free();
            int mover = game.mover();
            for (int left = Long.bitCount(free); left > 0; left--) {
                state = (state * 1103515245L + 12345L) % 2147483648L;
                long cell = cellWithNumber(free, (int) (state / 65536L % left));
                free &= ~cell;
                if (mover == 0) {
                    own |= cell;
                }
                mover = 1 - mover;
            }
            if (board.linked(own, board.upper, board.lower)) {
                won++;
            }
        }
        return won;
    }

    // ---- text, slots, checksum

    public int append(int letter) {
        if (letter < 0 || letter > MAX_LETTER) {
            return BAD_VALUE;
        }
        if (textLength >= MAX_TEXT) {
            return FULL;
        }
        text[textLength] = (byte) letter;
        textLength++;
        return textLength;
    }

    public int clearText() {
        int before = textLength;
        textLength = 0;
        return before;
    }

    public int faultPosition() {
        return tryText();
    }

    public int read() {
        if (tryText() != NONE) {
            return NOT_POSSIBLE;
        }
        game.copyFrom(trial);
        threatCount = 0;
        return game.made;
    }

    public int save(int slot) {
        if (slot < 0 || slot >= SLOTS) {
            return BAD_INDEX;
        }
        Game kept = slots[slot];
        if (kept == null) {
            kept = new Game(game.board);
            slots[slot] = kept;
        }
        kept.copyFrom(game);
        return game.made;
    }

    public int restore(int slot) {
        if (slot < 0 || slot >= SLOTS) {
            return BAD_INDEX;
        }
        Game kept = slots[slot];
        if (kept == null) {
            return NOT_POSSIBLE;
        }
        game.copyFrom(kept);
        threatCount = 0;
        return game.made;
    }

    public long checksum() {
        long h = 37;
        h = 31 * h + rows();
        h = 31 * h + moves();
        for (int i = 0; i < game.made; i++) {
            h = 31 * h + moveAt(i);
        }
        h = 31 * h + winner();
        for (int player = 0; player < 2; player++) {
            h = 31 * h + stones(player);
            h = 31 * h + chains(player);
            h = 31 * h + distance(player);
            h = 31 * h + shortest(player);
            h = 31 * h + cut(player);
            h = 31 * h + bridges(player);
            h = 31 * h + threats(player);
            h = 31 * h + needed(player);
        }
        return 31 * h + answers();
    }

    // ---- what the calls above share

    private static boolean isPlayer(int player) {
        return player == 0 || player == 1;
    }

    private boolean isCell(int cell) {
        return cell >= 0 && cell < game.board.cells;
    }

    private boolean hasFreeAtMost(int limit) {
        return Long.bitCount(game.free()) <= limit;
    }

    /** The lowest cell of a set that is not empty. */
    private static int lowest(long set) {
        return Long.bitCount((set & -set) - 1);
    }

    /** The cell with this number among the cells of the set, as a set. */
    private static long cellWithNumber(long set, int number) {
        long rest = set;
        for (int i = 0; i < number; i++) {
            rest &= rest - 1;
        }
        return rest & -rest;
    }

    /** The subset that comes next in ascending order, with the empty one behind the last one. */
    private static long nextSubset(long subset, long set) {
        return (subset - set) & set;
    }

    private long chainAround(int cell) {
        long seed = 1L << cell;
        long own = game.stonesOf((game.stonesOf(0) & seed) != 0 ? 0 : 1);
        return game.board.flood(seed, own);
    }

    /** Fills the row of found bridges in the order of their numbers, and returns how many there are. */
    private int findBridges(long own, long free) {
        Board board = game.board;
        int count = 0;
        for (int low = 0; low < board.cells; low++) {
            long partners = bridgePartners(own & (1L << low), own);
            for (int i = 0; i < MAX_CELLS && partners != 0; i++) {
                int found = low * 64 + lowest(partners);
                long carrier = carrierOf(found);
                if (Long.bitCount(carrier) == 2 && (carrier & ~free) == 0 && count < MAX_BRIDGES) {
                    foundBridges[count] = found;
                    count++;
                }
                partners &= partners - 1;
            }
        }
        return count;
    }

    /** The higher stones that are not beside the stone, but have a cell beside them in common with it. */
    private long bridgePartners(long stone, long own) {
        long higher = -(stone << 1);
        long near = game.board.around(stone);
        return own & higher & game.board.around(near) & ~near;
    }

    /** The cells that are beside both stones of a bridge. */
    private long carrierOf(int found) {
        Board board = game.board;
        return board.around(1L << (found >>> 6)) & board.around(1L << (found & 63));
    }

    /** In solving, player 0 is the one who connects: if player 0 is cut off, player 1 has won. */
    private int outcomeOfGame() {
        Board board = game.board;
        contest.arrange(board, board.upper, board.lower, game.free());
        return contest.result(game.stonesOf(0), game.free(), game.mover() == 0);
    }

    private boolean isPlace(int place) {
        return place >= LOWEST_PLACE && place < game.board.cells;
    }

    /** The error that applies to a region with its player and places, or 0. */
    private int regionError(int player, int from, int to, long region, int limit) {
        if (!isPlayer(player) || !isPlace(from) || !isPlace(to) || from == to) {
            return BAD_INDEX;
        }
        if ((region & ~game.free()) != 0 || Long.bitCount(region) > limit) {
            return BAD_VALUE;
        }
        return 0;
    }

    private boolean canConnect(int player, int from, int to, long region, boolean first) {
        Board board = game.board;
        contest.arrange(board, board.cellsOf(from), board.cellsOf(to), region);
        return Contest.connects(contest.result(game.stonesOf(player), region, first));
    }

    private boolean isValidThreat(int number, int player) {
        return number >= 0 && number < threatCount && number < MAX_THREATS
                && threatPlayers[number] == player
                && (threatRegions[number] & game.stonesOf(1 - player)) == 0;
    }

    /** Plays the text as the trial game; returns its fault position, or NONE. */
    private int tryText() {
        trial.start(game.board);
        int at = 0;
        for (int i = 0; i < MAX_TEXT && at < textLength; i++) {
            int length = moveLength(at);
            int fault = faultOfMove(at, length);
            if (fault != NONE) {
                return fault;
            }
            trial.add(length == 1 ? SWAP : cellAt(at));
            at += length;
        }
        return NONE;
    }

    private int letterAt(int at) {
        return at >= 0 && at < textLength && at < MAX_TEXT ? text[at] : NONE;
    }

    private int moveLength(int at) {
        return letterAt(at) == 'S' ? 1 : 2;
    }

    private int cellAt(int at) {
        return (letterAt(at + 1) - '1') * game.board.size + letterAt(at) - 'a';
    }

    private int faultOfMove(int at, int length) {
        int size = game.board.size;
        if (trial.victor() != NONE) {
            return at;
        }
        if (length == 1) {
            return trial.maySwap() ? NONE : at;
        }
        if (letterAt(at) < 'a' || letterAt(at) >= 'a' + size) {
            return at;
        }
        if (letterAt(at + 1) < '1' || letterAt(at + 1) >= '1' + size || !trial.isFree(cellAt(at))) {
            return at + 1;
        }
        return NONE;
    }

    /** The cells of a board, and which of them lie beside each other. */
    private static final class Board {
        final int size;
        final int cells;
        final long all;
        final long upper;
        final long lower;
        final long left;
        final long right;

        Board(int size) {
            this.size = size;
            cells = size * size;
            all = (1L << cells) - 1;
            upper = (1L << size) - 1;
            lower = upper << (cells - size);
            long column = 0;
            for (int row = 0; row < size; row++) {
                column |= 1L << (row * size);
            }
            left = column;
            right = column << (size - 1);
        }

        /** The cells that are beside a cell of the set. */
        long around(long set) {
            long toRight = (set << 1 | set >>> (size - 1)) & ~left;
            long toLeft = (set >>> 1 | set << (size - 1)) & ~right;
            return (toRight | toLeft | set << size | set >>> size) & all;
        }

        /** The cells that can be reached from the seeds, all within the given set. */
        long flood(long seeds, long within) {
            return floodUpTo(seeds, within, 0);
        }

        boolean linked(long own, long from, long to) {
            return (floodUpTo(from, own, to) & to) != 0;
        }

        /** Stops at the goal, since most floods only ask whether it is reached. */
        private long floodUpTo(long seeds, long within, long goal) {
            long reached = seeds & within;
            for (int i = 0; i < cells && (reached & goal) == 0; i++) {
                long next = (reached | around(reached)) & within;
                if (next == reached) {
                    return reached;
                }
                reached = next;
            }
            return reached;
        }

        long firstEdge(int player) {
            return player == 0 ? upper : left;
        }

        long secondEdge(int player) {
            return player == 0 ? lower : right;
        }

        /** The cell of a place, or the cells that touch it if it is an edge. */
        long cellsOf(int place) {
            switch (place) {
                case -1:
                    return upper;
                case -2:
                    return lower;
                case -3:
                    return left;
                case -4:
                    return right;
                default:
                    return 1L << place;
            }
        }

        /** The set with rows and columns exchanged. */
        long mirrored(long set) {
            long image = 0;
            for (int row = 0; row < size; row++) {
                for (int column = 0; column < size; column++) {
                    if ((set >>> (row * size + column) & 1L) != 0) {
                        image |= 1L << (column * size + row);
                    }
                }
            }
            return image;
        }
    }

    /** A game with its moves, also those that could be made again. */
    private static final class Game {
        Board board;
        int made;
        int known;
        private final int[] list = new int[MAX_MOVES];
        private long stones0;
        private long stones1;

        Game(Board board) {
            this.board = board;
        }

        void start(Board newBoard) {
            board = newBoard;
            made = 0;
            known = 0;
            stones0 = 0;
            stones1 = 0;
        }

        void copyFrom(Game other) {
            board = other.board;
            made = other.made;
            known = other.known;
            stones0 = other.stones0;
            stones1 = other.stones1;
            for (int i = 0; i < MAX_MOVES; i++) {
                list[i] = other.list[i];
            }
        }

        /** Makes a move that is possible: a cell, or SWAP. */
        void add(int move) {
            if (made < MAX_MOVES) {
                list[made] = move;
                known = made + 1;
                redo();
            }
        }

        void redo() {
            if (made < known) {
                apply(made);
                made++;
            }
        }

        /** The stones are placed anew, since a swap has moved one. */
        void undo() {
            int rest = made - 1;
            stones0 = 0;
            stones1 = 0;
            made = 0;
            for (int i = 0; i < rest; i++) {
                redo();
            }
        }

        private void apply(int index) {
            int move = moveNumber(index);
            if (move == SWAP) {
                stones1 = board.mirrored(stones0);
                stones0 = 0;
            } else if (index % 2 == 0) {
                stones0 |= 1L << move;
            } else {
                stones1 |= 1L << move;
            }
        }

        int moveNumber(int index) {
            return index >= 0 && index < MAX_MOVES ? list[index] : NONE;
        }

        /** The latest move: a cell, or something negative. */
        int latest() {
            return moveNumber(made - 1);
        }

        int mover() {
            return made % 2;
        }

        boolean maySwap() {
            return made == 1;
        }

        long stonesOf(int player) {
            return player == 0 ? stones0 : stones1;
        }

        long free() {
            return board.all & ~stones0 & ~stones1;
        }

        boolean isFree(int cell) {
            return (free() >>> cell & 1L) != 0;
        }

        int victor() {
            if (board.linked(stones0, board.upper, board.lower)) {
                return 0;
            }
            return board.linked(stones1, board.left, board.right) ? 1 : NONE;
        }
    }

    /** Finds shortest connections by layers: layer k has the cells reached with at most k empty ones. */
    private static final class Paths {
        private final long[] layers = new long[MAX_CELLS + 1];

        /** The distance of the player, or NONE; keeps the layers from the first edge up to it. */
        int measure(Game game, int player) {
            Board board = game.board;
            long own = game.stonesOf(player);
            long edge = board.firstEdge(player);
            long layer = board.flood(edge, own);
            for (int k = 0; k <= MAX_CELLS; k++) {
                layers[k] = layer;
                if ((layer & board.secondEdge(player)) != 0) {
                    return k;
                }
                layer = nextLayer(board, layer, edge, own, game.free());
            }
            return NONE;
        }

        private static long nextLayer(Board board, long layer, long edge, long own, long free) {
            long wider = layer | (edge | board.around(layer)) & free;
            return board.flood(wider, wider | own);
        }

        /** The empty cells of the shortest connections of the player, or NONE. */
        long onShortest(Game game, int player) {
            int length = measure(game, player);
            if (length == NONE) {
                return NONE;
            }
            Board board = game.board;
            long own = game.stonesOf(player);
            long edge = board.secondEdge(player);
            long layer = board.flood(edge, own);
            long set = 0;
            // Both layers count the cell itself, so on a shortest connection they add up to one more.
            for (int k = length; k >= 1 && k <= MAX_CELLS; k--) {
                layer = nextLayer(board, layer, edge, own, game.free());
                set |= layers[k] & layer & game.free();
            }
            return set;
        }
    }

    /** Who wins with each filling; bit i of a filling's number tells that empty cell i is player 0's. */
    private static final class Fillings {
        private final long[] wins = new long[(1 << MAX_FILLED) / 64];
        private int count;

        void compute(Game game) {
            Board board = game.board;
            long free = game.free();
            count = Math.min(MAX_FILLED, Long.bitCount(free));
            for (int word = 0; word < wins.length; word++) {
                wins[word] = 0;
            }
            long subset = 0;
            for (int filling = 0; filling < size(); filling++) {
                if (board.linked(game.stonesOf(0) | subset, board.upper, board.lower)) {
                    wins[filling >>> 6] |= 1L << (filling & 63);
                }
                subset = nextSubset(subset, free);
            }
        }

        int size() {
            return 1 << count;
        }

        int wonByFirst() {
            int sum = 0;
            for (int word = 0; word < wins.length; word++) {
                sum += Long.bitCount(wins[word]);
            }
            return sum;
        }

        /** The number of ways to fill the other cells for which the winner depends on this one. */
        int decidedBy(int spot) {
            int bit = 1 << spot;
            int sum = 0;
            for (int filling = 0; filling < size(); filling++) {
                if ((filling & bit) == 0 && isWon(filling) != isWon(filling | bit)) {
                    sum++;
                }
            }
            return sum;
        }

        private boolean isWon(int filling) {
            int word = filling >>> 6;
            return word < wins.length && (wins[word] >>> (filling & 63) & 1L) != 0;
        }
    }

    /**
     * The region game of a connecting player against a cutting one, both of whom play well.
     *
     * <p>An outcome is twice the number of moves until it is decided, plus 1 if the places get
     * connected. It is decided as soon as they are, or can't be any more. With all empty cells as
     * the region and the edges of a player as the places, this is the game itself.
     */
    private static final class Contest {
        private static final int[] POWERS = {1, 3, 9, 27, 81, 243, 729, 2187, 6561};
        private static final int OUTCOME_BITS = 5;
        private static final int PER_WORD = 12;
        private static final int WORDS = 1641;

        private Board board;
        private long from;
        private long to;
        private final long[] spots = new long[MAX_SOLVED];
        /** Outcomes plus 1, at the position's number in base 3; 0 if not known. */
        private final long[] memo = new long[WORDS];

        Contest(Board board) {
            this.board = board;
        }

        static boolean connects(int outcome) {
            return (outcome & 1) == 1;
        }

        static int length(int outcome) {
            return outcome >> 1;
        }

        /** Must go before every result: the memo holds for one region and one player who moves first. */
        void arrange(Board newBoard, long newFrom, long newTo, long region) {
            board = newBoard;
            from = newFrom;
            to = newTo;
            long rest = region;
            int positions = 1;
            for (int i = 0; i < MAX_SOLVED; i++) {
                spots[i] = rest & -rest;
                positions *= rest == 0 ? 1 : 3;
                rest &= rest - 1;
            }
            for (int word = 0; word < WORDS && word * PER_WORD < positions; word++) {
                memo[word] = 0;
            }
        }

        int result(long own, long region, boolean connecting) {
            return outcome(own, region, connecting, 0, 0);
        }

        private int outcome(long own, long free, boolean connecting, int number, int depth) {
            int found = recall(number) - 1;
            if (found >= 0) {
                return found;
            }
            // Only the move just made can have decided it; at the start there is none.
            if ((depth == 0 || !connecting) && board.linked(own, from, to)) {
                found = 1;
            } else if ((depth == 0 || connecting) && !board.linked(own | free, from, to)) {
                found = 0;
            } else {
                found = bestOutcome(own, free, connecting, number, depth);
            }
            remember(number, found + 1);
            return found;
        }

        private int bestOutcome(long own, long free, boolean connecting, int number, int depth) {
            int best = -1;
            int digit = connecting ? 1 : 2;
            for (int i = 0; i < MAX_SOLVED && depth < MAX_SOLVED; i++) {
                long spot = spots[i];
                if ((free & spot) != 0) {
                    int next = 2 + outcome(connecting ? own | spot : own, free & ~spot, !connecting,
                            number + digit * POWERS[i], depth + 1);
                    best = best < 0 ? next : better(best, next, connecting);
                }
            }
            return best;
        }

        /** Who gets the wish wants it early, and who doesn't, late. */
        private static int better(int best, int next, boolean connecting) {
            if (connects(best) != connects(next)) {
                return connects(next) == connecting ? next : best;
            }
            return connects(next) == connecting ? Math.min(best, next) : Math.max(best, next);
        }

        /** The cells with which the player to move gets the wish; none if it is decided already. */
        long winningSpots(long own, long region, boolean connecting) {
            long set = 0;
            if (length(result(own, region, connecting)) == 0) {
                return set;
            }
            int digit = connecting ? 1 : 2;
            for (int i = 0; i < MAX_SOLVED && (region & spots[i]) != 0; i++) {
                long spot = spots[i];
                int next = outcome(connecting ? own | spot : own, region & ~spot, !connecting,
                        digit * POWERS[i], 1);
                if (connects(next) == connecting) {
                    set |= spot;
                }
            }
            return set;
        }

        private int recall(int number) {
            int word = number / PER_WORD;
            if (number < 0 || word >= WORDS) {
                return 0;
            }
            return (int) (memo[word] >>> (number % PER_WORD * OUTCOME_BITS)) & 31;
        }

        private void remember(int number, int value) {
            int word = number / PER_WORD;
            if (number >= 0 && word < WORDS) {
                memo[word] |= (long) value << (number % PER_WORD * OUTCOME_BITS);
            }
        }
    }
}
