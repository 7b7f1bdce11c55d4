import java.util.ArrayList;
import java.util.Arrays;
import java.util.HashMap;
import java.util.List;
import java.util.Map;

/**
 * The document once more, written the slow and literal way, to compare the workbench with: boards are
 * rows of owners, paths are searched cell by cell, and games are played out to their ends.
 */
final class Reference {
    static final int BAD_INDEX = -11;
    static final int BAD_VALUE = -12;
    static final int NOT_POSSIBLE = -13;
    static final int FULL = -14;
    static final int NONE = -15;
    static final int SWAP = -16;
    private static final int EMPTY = -1;
    private static final int FAR = 1000;

    private record Saved(int rows, List<Integer> moves, List<Integer> undone) {
    }

    private record Threat(int player, long region) {
    }

    private int n = 5;
    private List<Integer> moves = new ArrayList<>();
    private List<Integer> undone = new ArrayList<>();
    private final List<Threat> threats = new ArrayList<>();
    private final StringBuilder text = new StringBuilder();
    private final Saved[] slots = new Saved[2];

    // ---- the board

    private int cells() {
        return n * n;
    }

    private static boolean besideEachOther(int n, int a, int b) {
        int dr = b / n - a / n;
        int dc = b % n - a % n;
        return dr == 0 && (dc == 1 || dc == -1) || dc == 0 && (dr == 1 || dr == -1)
                || dr == -1 && dc == 1 || dr == 1 && dc == -1;
    }

    private static boolean touches(int n, int cell, int place) {
        switch (place) {
            case -1:
                return cell / n == 0;
            case -2:
                return cell / n == n - 1;
            case -3:
                return cell % n == 0;
            case -4:
                return cell % n == n - 1;
            default:
                return cell == place;
        }
    }

    private static int firstEdge(int player) {
        return player == 0 ? -1 : -3;
    }

    private static int secondEdge(int player) {
        return player == 0 ? -2 : -4;
    }

    private static int[] ownersAfter(int n, List<Integer> moves, int count) {
        int[] owners = new int[n * n];
        Arrays.fill(owners, EMPTY);
        for (int i = 0; i < count; i++) {
            int move = moves.get(i);
            if (move == SWAP) {
                int first = moves.get(0);
                owners[first] = EMPTY;
                owners[first % n * n + first / n] = 1;
            } else {
                owners[move] = i % 2;
            }
        }
        return owners;
    }

    private int[] owners() {
        return ownersAfter(n, moves, moves.size());
    }

    private static long setOf(int[] owners, int owner) {
        long set = 0;
        for (int i = 0; i < owners.length; i++) {
            if (owners[i] == owner) {
                set |= 1L << i;
            }
        }
        return set;
    }

    private static int emptyCells(int[] owners) {
        return Long.bitCount(setOf(owners, EMPTY));
    }

    private static boolean connected(int n, int[] owners, int player, int from, int to) {
        boolean[] seen = new boolean[owners.length];
        boolean grown = true;
        while (grown) {
            grown = false;
            for (int a = 0; a < owners.length; a++) {
                if (seen[a] || owners[a] != player) {
                    continue;
                }
                boolean reached = touches(n, a, from);
                for (int b = 0; b < owners.length; b++) {
                    reached |= seen[b] && besideEachOther(n, a, b);
                }
                if (reached) {
                    seen[a] = true;
                    grown = true;
                    if (touches(n, a, to)) {
                        return true;
                    }
                }
            }
        }
        return false;
    }

    private static int winnerOf(int n, int[] owners) {
        for (int player = 0; player < 2; player++) {
            if (connected(n, owners, player, firstEdge(player), secondEdge(player))) {
                return player;
            }
        }
        return NONE;
    }

    // ---- games

    int begin(int rows) {
        if (rows < 2 || rows > 7) {
            return BAD_VALUE;
        }
        int before = n;
        n = rows;
        moves.clear();
        undone.clear();
        threats.clear();
        return before;
    }

    int rows() {
        return n;
    }

    int play(int cell) {
        if (cell < 0 || cell >= cells()) {
            return BAD_INDEX;
        }
        if (owners()[cell] != EMPTY || winner() != NONE) {
            return NOT_POSSIBLE;
        }
        moves.add(cell);
        undone.clear();
        return moves.size() - 1;
    }

    int swap() {
        if (moves.size() != 1) {
            return NOT_POSSIBLE;
        }
        int first = moves.get(0);
        moves.add(SWAP);
        undone.clear();
        return first % n * n + first / n;
    }

    int takeBack() {
        if (moves.isEmpty()) {
            return NOT_POSSIBLE;
        }
        undone.add(moves.remove(moves.size() - 1));
        return moves.size();
    }

    int again() {
        if (undone.isEmpty()) {
            return NOT_POSSIBLE;
        }
        moves.add(undone.remove(undone.size() - 1));
        return moves.size() - 1;
    }

    int moves() {
        return moves.size();
    }

    int moveAt(int index) {
        return index < 0 || index >= moves.size() ? BAD_INDEX : moves.get(index);
    }

    int turn() {
        return moves.size() % 2;
    }

    int winner() {
        return winnerOf(n, owners());
    }

    long stones(int player) {
        return player < 0 || player > 1 ? BAD_INDEX : setOf(owners(), player);
    }

    // ---- chains, distances, bridges

    private static long besideSet(int n, int cell) {
        long set = 0;
        for (int other = 0; other < n * n; other++) {
            if (besideEachOther(n, cell, other)) {
                set |= 1L << other;
            }
        }
        return set;
    }

    long beside(int cell) {
        return cell < 0 || cell >= cells() ? BAD_INDEX : besideSet(n, cell);
    }

    private long chainWith(int cell) {
        int[] owners = owners();
        long set = 1L << cell;
        for (int round = 0; round < cells(); round++) {
            for (int a = 0; a < cells(); a++) {
                if (owners[a] == owners[cell] && (besideSet(n, a) & set) != 0) {
                    set |= 1L << a;
                }
            }
        }
        return set;
    }

    int chains(int player) {
        if (player < 0 || player > 1) {
            return BAD_INDEX;
        }
        int count = 0;
        for (int cell = 0; cell < cells(); cell++) {
            if (owners()[cell] == player && Long.numberOfTrailingZeros(chainWith(cell)) == cell) {
                count++;
            }
        }
        return count;
    }

    int chainOf(int cell) {
        if (cell < 0 || cell >= cells()) {
            return BAD_INDEX;
        }
        return owners()[cell] == EMPTY ? NONE : Long.numberOfTrailingZeros(chainWith(cell));
    }

    long chain(int chain) {
        return chain < 0 || chain >= cells() || chainOf(chain) != chain ? BAD_INDEX : chainWith(chain);
    }

    /** How many empty cells it takes to come from the place to each cell, with that cell. */
    private int[] lengthsFrom(int player, int place) {
        int[] owners = owners();
        int[] lengths = new int[cells()];
        Arrays.fill(lengths, FAR);
        boolean shorter = true;
        while (shorter) {
            shorter = false;
            for (int a = 0; a < cells(); a++) {
                if (owners[a] == 1 - player) {
                    continue;
                }
                int before = touches(n, a, place) ? 0 : FAR;
                for (int b = 0; b < cells(); b++) {
                    if (besideEachOther(n, a, b)) {
                        before = Math.min(before, lengths[b]);
                    }
                }
                int length = before + (owners[a] == EMPTY ? 1 : 0);
                if (length < lengths[a]) {
                    lengths[a] = length;
                    shorter = true;
                }
            }
        }
        return lengths;
    }

    int distance(int player) {
        if (player < 0 || player > 1) {
            return BAD_INDEX;
        }
        int[] lengths = lengthsFrom(player, firstEdge(player));
        int best = FAR;
        for (int a = 0; a < cells(); a++) {
            if (touches(n, a, secondEdge(player))) {
                best = Math.min(best, lengths[a]);
            }
        }
        return best >= FAR ? NONE : best;
    }

    long shortest(int player) {
        int distance = distance(player);
        if (distance < 0) {
            return distance;
        }
        return n <= 3 ? shortestBySearch(player, distance) : shortestByLengths(player, distance);
    }

    private long shortestByLengths(int player, int distance) {
        int[] owners = owners();
        int[] there = lengthsFrom(player, firstEdge(player));
        int[] back = lengthsFrom(player, secondEdge(player));
        long set = 0;
        for (int a = 0; a < cells(); a++) {
            if (owners[a] == EMPTY && there[a] + back[a] - 1 == distance) {
                set |= 1L << a;
            }
        }
        return set;
    }

    private long shortestBySearch(int player, int distance) {
        long set = 0;
        for (int a = 0; a < cells(); a++) {
            if (touches(n, a, firstEdge(player))) {
                set |= connectionsFrom(player, a, 0, distance, owners());
            }
        }
        return set;
    }

    /** The empty cells of all connections with this length that go on with this cell. */
    private long connectionsFrom(int player, int cell, long path, int distance, int[] owners) {
        if (owners[cell] == 1 - player || (path >>> cell & 1) != 0) {
            return 0;
        }
        long longer = path | 1L << cell;
        long empty = longer & setOf(owners, EMPTY);
        long set = touches(n, cell, secondEdge(player)) && Long.bitCount(empty) == distance ? empty : 0;
        for (int next = 0; next < cells(); next++) {
            if (besideEachOther(n, cell, next)) {
                set |= connectionsFrom(player, next, longer, distance, owners);
            }
        }
        return set;
    }

    int cut(int player) {
        if (player < 0 || player > 1) {
            return BAD_INDEX;
        }
        if (winner() == player) {
            return NONE;
        }
        return new Flow(player).most();
    }

    /** The most connections without a common empty cell; by Menger's theorem, the cut. */
    private final class Flow {
        private final int size = 2 * cells() + 2;
        private final int[][] room = new int[size][size];

        Flow(int player) {
            int[] owners = owners();
            for (int a = 0; a < cells(); a++) {
                if (owners[a] == 1 - player) {
                    continue;
                }
                room[2 * a][2 * a + 1] = owners[a] == EMPTY ? 1 : FAR;
                for (int b = 0; b < cells(); b++) {
                    if (besideEachOther(n, a, b)) {
                        room[2 * a + 1][2 * b] = FAR;
                    }
                }
                if (touches(n, a, firstEdge(player))) {
                    room[size - 2][2 * a] = FAR;
                }
                if (touches(n, a, secondEdge(player))) {
                    room[2 * a + 1][size - 1] = FAR;
                }
            }
        }

        int most() {
            int flow = 0;
            while (push(size - 2, new boolean[size])) {
                flow++;
            }
            return flow;
        }

        private boolean push(int at, boolean[] seen) {
            if (at == size - 1) {
                return true;
            }
            seen[at] = true;
            for (int next = 0; next < size; next++) {
                if (!seen[next] && room[at][next] > 0 && push(next, seen)) {
                    room[at][next]--;
                    room[next][at]++;
                    return true;
                }
            }
            return false;
        }
    }

    /** Each bridge: its lower and its higher stone, then the lower and the higher cell of its carrier. */
    private static List<int[]> bridgesOf(int n, int[] owners, int player) {
        List<int[]> found = new ArrayList<>();
        for (int low = 0; low < n * n; low++) {
            for (int high = low + 1; high < n * n; high++) {
                if (owners[low] != player || owners[high] != player || besideEachOther(n, low, high)) {
                    continue;
                }
                List<Integer> common = new ArrayList<>();
                for (int cell = 0; cell < n * n; cell++) {
                    if (besideEachOther(n, low, cell) && besideEachOther(n, high, cell)) {
                        common.add(cell);
                    }
                }
                if (common.size() == 2 && owners[common.get(0)] == EMPTY && owners[common.get(1)] == EMPTY) {
                    found.add(new int[] {low, high, common.get(0), common.get(1)});
                }
            }
        }
        return found;
    }

    int bridges(int player) {
        return player < 0 || player > 1 ? BAD_INDEX : bridgesOf(n, owners(), player).size();
    }

    int bridge(int player, int bridge, int what) {
        if (player < 0 || player > 1 || bridge < 0 || bridge >= bridges(player)) {
            return BAD_INDEX;
        }
        return what < 0 || what > 3 ? BAD_VALUE : bridgesOf(n, owners(), player).get(bridge)[what];
    }

    long answers() {
        if (moves.isEmpty() || moves.get(moves.size() - 1) == SWAP) {
            return 0;
        }
        int last = moves.get(moves.size() - 1);
        int mover = (moves.size() - 1) % 2;
        long set = 0;
        for (int[] bridge : bridgesOf(n, ownersAfter(n, moves, moves.size() - 1), 1 - mover)) {
            if (bridge[2] == last) {
                set |= 1L << bridge[3];
            }
            if (bridge[3] == last) {
                set |= 1L << bridge[2];
            }
        }
        return set;
    }

    // ---- fillings

    private static List<Integer> list(long set) {
        List<Integer> cells = new ArrayList<>();
        for (int i = 0; i < 64; i++) {
            if ((set >>> i & 1) != 0) {
                cells.add(i);
            }
        }
        return cells;
    }

    private int fillingsWonBy(int player, int[] owners) {
        int[] filled = owners.clone();
        List<Integer> empty = list(setOf(owners, EMPTY));
        int count = 0;
        for (int filling = 0; filling < 1 << empty.size(); filling++) {
            for (int i = 0; i < empty.size(); i++) {
                filled[empty.get(i)] = filling >> i & 1;
            }
            if (winnerOf(n, filled) == player) {
                count++;
            }
        }
        return count;
    }

    int fillings(int player) {
        if (player < 0 || player > 1) {
            return BAD_INDEX;
        }
        return emptyCells(owners()) > 12 ? NOT_POSSIBLE : fillingsWonBy(player, owners());
    }

    int weight(int cell) {
        int[] owners = owners();
        if (cell < 0 || cell >= cells() || owners[cell] != EMPTY) {
            return BAD_INDEX;
        }
        if (emptyCells(owners) > 12) {
            return NOT_POSSIBLE;
        }
        int[] filled = owners.clone();
        List<Integer> others = list(setOf(owners, EMPTY) & ~(1L << cell));
        int count = 0;
        for (int filling = 0; filling < 1 << others.size(); filling++) {
            for (int i = 0; i < others.size(); i++) {
                filled[others.get(i)] = filling >> i & 1;
            }
            filled[cell] = 0;
            int with0 = winnerOf(n, filled);
            filled[cell] = 1;
            if (with0 != winnerOf(n, filled)) {
                count++;
            }
        }
        return count;
    }

    long dead() {
        if (emptyCells(owners()) > 12) {
            return NOT_POSSIBLE;
        }
        long set = 0;
        for (int cell : list(setOf(owners(), EMPTY))) {
            if (weight(cell) == 0) {
                set |= 1L << cell;
            }
        }
        return set;
    }

    // ---- solving

    /** Who wins the position, and in how many moves, with the definitions taken literally. */
    private static int[] solved(int n, int[] owners, int mover, Map<String, int[]> known) {
        String key = Arrays.toString(owners);
        if (!known.containsKey(key)) {
            known.put(key, solvedAnew(n, owners, mover, known));
        }
        return known.get(key);
    }

    private static int[] solvedAnew(int n, int[] owners, int mover, Map<String, int[]> known) {
        int winner = winnerOf(n, owners);
        if (winner != NONE) {
            return new int[] {winner, 0};
        }
        int earliest = FAR;
        int latest = 0;
        for (int cell : list(setOf(owners, EMPTY))) {
            int[] after = owners.clone();
            after[cell] = mover;
            int[] next = solved(n, after, 1 - mover, known);
            if (next[0] == mover) {
                earliest = Math.min(earliest, next[1] + 1);
            } else {
                latest = Math.max(latest, next[1] + 1);
            }
        }
        return earliest < FAR ? new int[] {mover, earliest} : new int[] {1 - mover, latest};
    }

    int solve() {
        if (emptyCells(owners()) > 9) {
            return NOT_POSSIBLE;
        }
        return solved(n, owners(), turn(), new HashMap<>())[0];
    }

    private static long winningMovesOf(int n, int[] owners, int mover) {
        long set = 0;
        if (winnerOf(n, owners) != NONE) {
            return set;
        }
        Map<String, int[]> known = new HashMap<>();
        for (int cell : list(setOf(owners, EMPTY))) {
            int[] after = owners.clone();
            after[cell] = mover;
            if (solved(n, after, 1 - mover, known)[0] == mover) {
                set |= 1L << cell;
            }
        }
        return set;
    }

    long winningMoves() {
        return emptyCells(owners()) > 9 ? NOT_POSSIBLE : winningMovesOf(n, owners(), turn());
    }

    int duration() {
        if (emptyCells(owners()) > 9) {
            return NOT_POSSIBLE;
        }
        return solved(n, owners(), turn(), new HashMap<>())[1];
    }

    long winningOpenings(int rows) {
        if (rows < 2 || rows > 3) {
            return BAD_VALUE;
        }
        return winningMovesOf(rows, ownersAfter(rows, moves, 0), 0);
    }

    // ---- regions and threats

    private boolean canConnect(int[] owners, int player, int from, int to, long region, int mover) {
        if (region == 0) {
            return connected(n, owners, player, from, to);
        }
        for (int cell : list(region)) {
            int[] after = owners.clone();
            after[cell] = mover;
            boolean connects = canConnect(after, player, from, to, region & ~(1L << cell), 1 - mover);
            if (connects == (mover == player)) {
                return connects;
            }
        }
        return mover != player;
    }

    private int regionError(int player, int from, int to, long region, int limit) {
        if (player < 0 || player > 1 || from < -4 || from >= cells() || to < -4 || to >= cells() || from == to) {
            return BAD_INDEX;
        }
        boolean allEmpty = (region & setOf(owners(), EMPTY)) == region;
        return !allEmpty || Long.bitCount(region) > limit ? BAD_VALUE : 0;
    }

    int strength(int player, int from, int to, long region) {
        int error = regionError(player, from, to, region, 8);
        if (error != 0) {
            return error;
        }
        boolean full = canConnect(owners(), player, from, to, region, 1 - player);
        boolean half = canConnect(owners(), player, from, to, region, player);
        return full ? 2 : half ? 1 : 0;
    }

    int smallestFull(int player, int from, int to, long region) {
        int error = regionError(player, from, to, region, 6);
        if (error != 0) {
            return error;
        }
        List<Integer> cells = list(region);
        int best = FAR;
        for (int choice = 0; choice < 1 << cells.size(); choice++) {
            long subset = 0;
            for (int i = 0; i < cells.size(); i++) {
                subset |= (long) (choice >> i & 1) << cells.get(i);
            }
            if (canConnect(owners(), player, from, to, subset, 1 - player)) {
                best = Math.min(best, Long.bitCount(subset));
            }
        }
        return best == FAR ? NONE : best;
    }

    int addThreat(int player, long region) {
        int error = regionError(player, firstEdge(player), secondEdge(player), region, 8);
        if (error != 0) {
            return error;
        }
        if (!canConnect(owners(), player, firstEdge(player), secondEdge(player), region, player)) {
            return NOT_POSSIBLE;
        }
        if (threats.size() == 6) {
            return FULL;
        }
        threats.add(new Threat(player, region));
        return threats.size();
    }

    int clearThreats() {
        int before = threats.size();
        threats.clear();
        return before;
    }

    private List<Threat> validThreats(int player) {
        List<Threat> valid = new ArrayList<>();
        for (Threat threat : threats) {
            if (threat.player() == player && (threat.region() & setOf(owners(), 1 - player)) == 0) {
                valid.add(threat);
            }
        }
        return valid;
    }

    int threats(int player) {
        return player < 0 || player > 1 ? BAD_INDEX : validThreats(player).size();
    }

    long needed(int player) {
        if (player < 0 || player > 1) {
            return BAD_INDEX;
        }
        if (validThreats(player).isEmpty()) {
            return NONE;
        }
        long set = setOf(owners(), EMPTY);
        for (Threat threat : validThreats(player)) {
            set &= threat.region();
        }
        return set;
    }

    // ---- random games, text, slots, checksum

    int randomGames(int start, int games) {
        if (start < 0 || games < 1 || games > 50) {
            return BAD_VALUE;
        }
        long state = start;
        int won = 0;
        for (int i = 0; i < games; i++) {
            int[] owners = owners();
            int mover = turn();
            List<Integer> empty = list(setOf(owners, EMPTY));
            while (!empty.isEmpty()) {
                state = (state * 1103515245L + 12345L) % 2147483648L;
                owners[empty.remove((int) (state / 65536 % empty.size()))] = mover;
                mover = 1 - mover;
            }
            won += winnerOf(n, owners) == 0 ? 1 : 0;
        }
        return won;
    }

    int append(int letter) {
        if (letter < 0 || letter > 127) {
            return BAD_VALUE;
        }
        if (text.length() == 100) {
            return FULL;
        }
        text.append((char) letter);
        return text.length();
    }

    int clearText() {
        int before = text.length();
        text.setLength(0);
        return before;
    }

    /** The moves of the text; with a fault, the last one is its position, less 1000. */
    private List<Integer> movesOfText() {
        List<Integer> made = new ArrayList<>();
        int at = 0;
        while (at < text.length()) {
            int[] owners = ownersAfter(n, made, made.size());
            char letter = text.charAt(at);
            int column = letter - 'a';
            boolean swaps = letter == 'S' && made.size() == 1;
            if (winnerOf(n, owners) != NONE || !swaps && (column < 0 || column >= n)) {
                made.add(at - FAR);
                return made;
            }
            if (swaps) {
                made.add(SWAP);
                at++;
                continue;
            }
            int row = at + 1 < text.length() ? text.charAt(at + 1) - '1' : -1;
            if (row < 0 || row >= n || owners[row * n + column] != EMPTY) {
                made.add(at + 1 - FAR);
                return made;
            }
            made.add(row * n + column);
            at += 2;
        }
        return made;
    }

    int faultPosition() {
        List<Integer> made = movesOfText();
        int last = made.isEmpty() ? 0 : made.get(made.size() - 1);
        return last < SWAP ? last + FAR : NONE;
    }

    int read() {
        if (faultPosition() != NONE) {
            return NOT_POSSIBLE;
        }
        moves = movesOfText();
        undone.clear();
        threats.clear();
        return moves.size();
    }

    int save(int slot) {
        if (slot < 0 || slot > 1) {
            return BAD_INDEX;
        }
        slots[slot] = new Saved(n, List.copyOf(moves), List.copyOf(undone));
        return moves.size();
    }

    int restore(int slot) {
        if (slot < 0 || slot > 1) {
            return BAD_INDEX;
        }
        if (slots[slot] == null) {
            return NOT_POSSIBLE;
        }
        n = slots[slot].rows();
        moves = new ArrayList<>(slots[slot].moves());
        undone = new ArrayList<>(slots[slot].undone());
        threats.clear();
        return moves.size();
    }

    long checksum() {
        List<Long> values = new ArrayList<>();
        values.add((long) rows());
        values.add((long) moves());
        for (int move : moves) {
            values.add((long) move);
        }
        values.add((long) winner());
        for (int player = 0; player < 2; player++) {
            values.addAll(List.of(stones(player), (long) chains(player), (long) distance(player),
                    shortest(player), (long) cut(player), (long) bridges(player), (long) threats(player),
                    needed(player)));
        }
        values.add(answers());
        long h = 37;
        for (long value : values) {
            h = 31 * h + value;
        }
        return h;
    }

    long emptySet() {
        return setOf(owners(), EMPTY);
    }
}
