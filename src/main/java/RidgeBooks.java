/**
 * A book of finger prints: boards of ridges, thinned, with their ends and forks, the move by which
 * most of two of them agree, the search for a print in the book, and the chance of agreeing by luck.
 *
 * <p>Words in capitals in the comments are those of the document's terms.
 */
public final class RidgeBooks {
    public static final int NONE = -1;

    private static final int NOTHING = -100;

    private static final int BAD_NUMBER = -1;
    private static final int NO_SUCH_PRINT = -2;
    private static final int NO_ROOM = -5;

    private static final int MOST_PRINTS = 16;
    private static final int SIDE = 24;
    private static final int WHOLE_ROW = (1 << SIDE) - 1;
    private static final int DIRECTIONS = 8;
    private static final int FORK = 8;
    private static final int MOST_MARKS = 40;
    private static final int TURNS = 4;
    private static final int MOST_SHIFT = 8;
    private static final int MOST_REACH = 3;
    private static final int MOST_TRIALS = 12;
    private static final int CHANCE_PARTS = 16;

    private final Board[] boards = new Board[MOST_PRINTS];
    private final Meeting[] meetings = new Meeting[MOST_PRINTS * MOST_PRINTS];
    private final Thinner thinner = new Thinner();
    private final Pairing pairing = new Pairing();
    private final long[] ways = new long[MOST_TRIALS + 1];
    private int boardCount = 0;
    private int reach = 1;
    private int refusal = 0;

    public RidgeBooks() {
    }

    public int print() {
        if (boardCount >= MOST_PRINTS) {
            return refuse(NO_ROOM);
        }
        refusal = 0;
        boards[boardCount] = new Board();
        boardCount++;
        return boardCount - 1;
    }

    public int row(int print, int y, int bits) {
        if (!isOnBoard(y)) {
            return refuse(BAD_NUMBER);
        }
        Board board = boardOf(print);
        if (board == null) {
            return refuse(NO_SUCH_PRINT);
        }
        refusal = 0;
        board.tell(y, bits & WHOLE_ROW);
        return 0;
    }

    public int cell(int print, int x, int y, int what) {
        if (!isOnBoard(x) || !isOnBoard(y) || what < 0 || what > 1) {
            return NONE;
        }
        Board board = what == 0 ? boardOf(print) : freshBoard(print);
        if (board == null) {
            return NONE;
        }
        int bits = what == 0 ? board.told[y] : board.thinned[y];
        return (bits >>> x) & 1;
    }

    public int thin(int print, int y) {
        Board board = freshBoard(print);
        if (board == null || !isOnBoard(y)) {
            return 0;
        }
        return board.thinned[y];
    }

    public int mark(int print, int i, int what) {
        Board board = freshBoard(print);
        if (board == null || what < 0 || what > 2) {
            return NONE;
        }
        if (i == -1) {
            return what == 0 ? board.markCount : what == 1 ? board.endCount : board.forkCount();
        }
        if (i < 0 || i >= board.markCount || i >= MOST_MARKS) {
            return NONE;
        }
        return what == 0 ? board.markX[i] : what == 1 ? board.markY[i] : board.markDirection[i];
    }

    public int within(int t) {
        if (t < 0 || t > MOST_REACH) {
            return refuse(BAD_NUMBER);
        }
        refusal = 0;
        int before = reach;
        reach = t;
        return before;
    }

    public int pairs(int p, int q, int turn, int dx, int dy) {
        Board first = freshBoard(p);
        Board second = freshBoard(q);
        if (first == null || second == null) {
            return NONE;
        }
        if (turn < 0 || turn >= TURNS || !isShift(dx) || !isShift(dy)) {
            return NONE;
        }
        pairing.prepare(first, second, reach);
        return pairing.mostPairs(turn, dx, dy, 0);
    }

    public int best(int p, int q, int what) {
        Meeting meeting = meetingOf(p, q);
        if (meeting == null) {
            return NOTHING;
        }
        switch (what) {
            case 0: return meeting.score;
            case 1: return meeting.turn;
            case 2: return meeting.dx;
            case 3: return meeting.dy;
            default: return NOTHING;
        }
    }

    public int bound(int p, int q) {
        Board first = freshBoard(p);
        Board second = freshBoard(q);
        if (first == null || second == null) {
            return NONE;
        }
        return first.mostAgreeing(second);
    }

    public int seek(int p, int what) {
        Board sought = freshBoard(p);
        if (sought == null || what < 0 || what > 2) {
            return NONE;
        }
        int found = NONE;
        int foundScore = NONE;
        int looked = 0;
        int left = othersWithMarks(p);
        for (int k = 0; k < boardCount; k++) {
            int q = nextToLookAt(sought, left);
            // Once a BOUND can't be ahead, none behind it can: they come in that order.
            Meeting meeting = isAhead(bound(p, q), q, foundScore, found) ? meetingOf(p, q) : null;
            if (meeting == null) {
                break;
            }
            looked++;
            left &= ~(1 << q);
            if (isAhead(meeting.score, q, foundScore, found)) {
                found = q;
                foundScore = meeting.score;
            }
        }
        return what == 0 ? found : what == 1 ? foundScore : looked;
    }

    public long chance(int n, int k, int p) {
        if (n < 0 || n > MOST_TRIALS || k < 0 || k > MOST_TRIALS || p < 0 || p > CHANCE_PARTS) {
            return NONE;
        }
        spreadWays(n, p);
        long sum = 0;
        for (int j = k; j <= n; j++) {
            sum += ways[j];
        }
        return sum;
    }

    public int join(int p, int q) {
        if (p == q) {
            return refuse(BAD_NUMBER);
        }
        Meeting meeting = meetingOf(p, q);
        if (meeting == null) {
            return refuse(NO_SUCH_PRINT);
        }
        refusal = 0;
        return meeting.bringTogether();
    }

    public int count(int what) {
        switch (what) {
            case 0: return boardCount;
            case 1: return fullCells();
            case 2: return reach;
            default: return NONE;
        }
    }

    public int status() {
        return refusal;
    }

    private int refuse(int why) {
        refusal = why;
        return why;
    }

    private static boolean isOnBoard(int place) {
        return place >= 0 && place < SIDE;
    }

    private static boolean isShift(int shift) {
        return shift >= -MOST_SHIFT && shift <= MOST_SHIFT;
    }

    private Board boardOf(int print) {
        return print >= 0 && print < boardCount && print < MOST_PRINTS ? boards[print] : null;
    }

    /** The board with its thinned rows and MARKS up to date, which are made only once they are asked for. */
    private Board freshBoard(int print) {
        Board board = boardOf(print);
        if (board != null && board.stale) {
            thinner.refresh(board);
        }
        return board;
    }

    private Meeting meetingOf(int p, int q) {
        Board first = freshBoard(p);
        Board second = freshBoard(q);
        if (first == null || second == null) {
            return null;
        }
        int at = p * MOST_PRINTS + q;
        Meeting meeting = meetings[at];
        if (meeting == null) {
            meeting = new Meeting(first, second);
            meetings[at] = meeting;
        }
        if (!meeting.stillHolds(reach)) {
            meeting.findBestMove(pairing, reach);
        }
        return meeting;
    }

    /** Bit q is set for every PRINT q beside p that has MARKS. */
    private int othersWithMarks(int p) {
        int others = 0;
        for (int q = 0; q < boardCount; q++) {
            Board board = freshBoard(q);
            if (q != p && board != null && board.markCount > 0) {
                others |= 1 << q;
            }
        }
        return others;
    }

    /** Of the PRINTS in left the lowest with the greatest BOUND; NONE if left is empty. */
    private int nextToLookAt(Board sought, int left) {
        int next = NONE;
        int greatest = NONE;
        for (int q = 0; q < boardCount; q++) {
            boolean isLeft = ((left >>> q) & 1) != 0;
            Board board = isLeft ? boardOf(q) : null;
            int ceiling = board == null ? NONE : sought.mostAgreeing(board);
            if (ceiling > greatest) {
                next = q;
                greatest = ceiling;
            }
        }
        return next;
    }

    /** The same rule says whether a BOUND is worth a look and whether a SCORE is the one to tell. */
    private static boolean isAhead(int value, int q, int foundScore, int found) {
        return value > foundScore || value == foundScore && q < found;
    }

    /** Makes ways[j] the parts, of 16 to the n-th, in which just j of n agree. */
    private void spreadWays(int n, int p) {
        for (int j = 0; j <= MOST_TRIALS; j++) {
            ways[j] = j == 0 ? 1 : 0;
        }
        for (int trial = 0; trial < n; trial++) {
            // Downwards, so that ways[j - 1] is still that of one trial before.
            for (int j = MOST_TRIALS; j >= 1; j--) {
                ways[j] = ways[j] * (CHANCE_PARTS - p) + ways[j - 1] * p;
            }
            ways[0] *= CHANCE_PARTS - p;
        }
    }

    private int fullCells() {
        int full = 0;
        for (int print = 0; print < boardCount; print++) {
            Board board = boardOf(print);
            for (int y = 0; board != null && y < SIDE; y++) {
                full += Integer.bitCount(board.told[y]);
            }
        }
        return full;
    }

    /** A PRINT: its rows as told, and as last thinned with the MARKS of that. */
    private static final class Board {
        final int[] told = new int[SIDE];
        final int[] thinned = new int[SIDE];
        final int[] markX = new int[MOST_MARKS];
        final int[] markY = new int[MOST_MARKS];
        final int[] markDirection = new int[MOST_MARKS];
        int markCount = 0;
        int endCount = 0;
        int edition = 0;
        boolean stale = false;

        void tell(int y, int bits) {
            if (isOnBoard(y) && told[y] != bits) {
                told[y] = bits;
                edition++;
                stale = true;
            }
        }

        void clearMarks() {
            markCount = 0;
            endCount = 0;
        }

        void addMark(int x, int y, int direction) {
            if (markCount >= MOST_MARKS) {
                return;
            }
            markX[markCount] = x;
            markY[markCount] = y;
            markDirection[markCount] = direction;
            markCount++;
            if (direction != FORK) {
                endCount++;
            }
        }

        int forkCount() {
            return markCount - endCount;
        }

        int mostAgreeing(Board other) {
            return Math.min(endCount, other.endCount) + Math.min(forkCount(), other.forkCount());
        }
    }

    /** Counts, for all CELLS of a row at once, in how many of the rows added they are set, up to three. */
    private static final class Tally {
        int one = 0;
        int two = 0;
        int three = 0;

        void clear() {
            one = 0;
            two = 0;
            three = 0;
        }

        void add(int bits) {
            three |= two & bits;
            two |= one & bits;
            one |= bits;
        }

        int justOne() {
            return one & ~two;
        }
    }

    /** The eight beside each CELL of one row: bit x of beside[d] is the one in DIRECTION d of CELL x. */
    private static final class Surroundings {
        final int[] beside = new int[DIRECTIONS];
        final Tally full = new Tally();
        final Tally empty = new Tally();
        final Tally changes = new Tally();
        int here = 0;

        void look(int[] rows, int y) {
            here = rowAt(rows, y);
            int up = rowAt(rows, y + 1);
            int down = rowAt(rows, y - 1);
            beside[0] = here >>> 1;
            beside[1] = up >>> 1;
            beside[2] = up;
            beside[3] = up << 1;
            beside[4] = here << 1;
            beside[5] = down << 1;
            beside[6] = down;
            beside[7] = down >>> 1;
            full.clear();
            empty.clear();
            changes.clear();
            for (int d = 0; d < DIRECTIONS; d++) {
                int next = d + 1 < DIRECTIONS ? d + 1 : 0;
                full.add(beside[d]);
                empty.add(~beside[d]);
                changes.add(~beside[d] & beside[next]);
            }
        }

        private static int rowAt(int[] rows, int y) {
            return y >= 0 && y < rows.length ? rows[y] : 0;
        }

        int takenInPass(boolean isFirst) {
            int right = beside[0];
            int up = beside[2];
            int left = beside[4];
            int down = beside[6];
            int kept = isFirst
                    ? (up & right & down) | (right & down & left)
                    : (up & right & left) | (up & down & left);
            // At least two empty ones of eight are the same as at most six full ones.
            return here & full.two & empty.two & changes.justOne() & ~kept;
        }

        int ends() {
            return here & full.justOne();
        }

        int forks() {
            return here & changes.three;
        }

        int directionOfEnd(int x) {
            for (int d = 0; d < DIRECTIONS; d++) {
                if (((beside[d] >>> x) & 1) != 0) {
                    return d;
                }
            }
            return 0;
        }
    }

    /** Brings a board's thinned rows and its MARKS up to date. */
    private static final class Thinner {
        private final Surroundings surroundings = new Surroundings();
        private final int[] taken = new int[SIDE];

        void refresh(Board board) {
            System.arraycopy(board.told, 0, board.thinned, 0, SIDE);
            boolean changed = true;
            // Every round but the last takes a CELL away, so there are never more rounds than this.
            for (int round = 0; changed && round <= SIDE * SIDE; round++) {
                boolean byFirst = takeAway(board.thinned, true);
                boolean bySecond = takeAway(board.thinned, false);
                changed = byFirst || bySecond;
            }
            listMarks(board);
            board.stale = false;
        }

        private boolean takeAway(int[] rows, boolean isFirst) {
            int any = 0;
            for (int y = 0; y < SIDE; y++) {
                surroundings.look(rows, y);
                taken[y] = surroundings.takenInPass(isFirst);
                any |= taken[y];
            }
            // Only now, since a pass takes its CELLS away all at once.
            for (int y = 0; y < SIDE && y < rows.length; y++) {
                rows[y] &= ~taken[y];
            }
            return any != 0;
        }

        private void listMarks(Board board) {
            board.clearMarks();
            for (int y = 1; y < SIDE - 1; y++) {
                surroundings.look(board.thinned, y);
                int ends = surroundings.ends();
                int forks = surroundings.forks();
                for (int x = 1; (ends | forks) != 0 && x < SIDE - 1; x++) {
                    if (((ends >>> x) & 1) != 0) {
                        board.addMark(x, y, surroundings.directionOfEnd(x));
                    } else if (((forks >>> x) & 1) != 0) {
                        board.addMark(x, y, FORK);
                    }
                }
            }
        }
    }

    /**
     * The MARKS of a first PRINT, MOVED, paired with those of a second. Sets of the second's MARKS
     * are held as the bits of a long, so that one MOVE costs but a few steps for each MARK.
     */
    private static final class Pairing {
        private static final int SPAN = SIDE + 2 * MOST_SHIFT;

        private final int[] turnedX = new int[TURNS * MOST_MARKS];
        private final int[] turnedY = new int[TURNS * MOST_MARKS];
        private final int[] turnedDirection = new int[TURNS * MOST_MARKS];
        private final long[] nearX = new long[SPAN];
        private final long[] nearY = new long[SPAN];
        private final long[] alike = new long[DIRECTIONS + 1];
        private final long[] choices = new long[MOST_MARKS];
        private final int[] mateOfFirst = new int[MOST_MARKS];
        private final int[] mateOfSecond = new int[MOST_MARKS];
        private final int[] cameFrom = new int[MOST_MARKS];
        private final int[] waiting = new int[MOST_MARKS];
        private int firstCount = 0;
        private long mated = 0;

        void prepare(Board first, Board second, int reach) {
            firstCount = Math.min(first.markCount, MOST_MARKS);
            turnMarks(first);
            clear(nearX);
            clear(nearY);
            clear(alike);
            for (int j = 0; j < second.markCount && j < MOST_MARKS; j++) {
                long bit = 1L << j;
                setAround(nearX, second.markX[j], reach, bit);
                setAround(nearY, second.markY[j], reach, bit);
                setAlike(second.markDirection[j], bit);
            }
        }

        private static void clear(long[] sets) {
            for (int k = 0; k < sets.length; k++) {
                sets[k] = 0;
            }
        }

        private void turnMarks(Board board) {
            for (int i = 0; i < firstCount; i++) {
                int x = board.markX[i];
                int y = board.markY[i];
                int direction = board.markDirection[i];
                for (int turn = 0; turn < TURNS; turn++) {
                    int at = turn * MOST_MARKS + i;
                    turnedX[at] = x;
                    turnedY[at] = y;
                    turnedDirection[at] = direction;
                    int before = x;
                    x = SIDE - 1 - y;
                    y = before;
                    direction = direction == FORK ? FORK : (direction + 2) & (DIRECTIONS - 1);
                }
            }
        }

        /** Places may lie off the board by MOST_SHIFT, so that is where the rows of sets begin. */
        private static void setAround(long[] near, int place, int reach, long bit) {
            for (int at = place - reach + MOST_SHIFT; at <= place + reach + MOST_SHIFT; at++) {
                if (at >= 0 && at < near.length) {
                    near[at] |= bit;
                }
            }
        }

        private void setAlike(int direction, long bit) {
            if (direction == FORK) {
                alike[FORK] |= bit;
                return;
            }
            for (int aside = -1; aside <= 1; aside++) {
                alike[(direction + aside) & (DIRECTIONS - 1)] |= bit;
            }
        }

        /** The COUNT of a MOVE; if it can't be above floor, any number from the COUNT up to floor. */
        int mostPairs(int turn, int dx, int dy, int floor) {
            int ceiling = gatherChoices(turn, dx, dy);
            if (ceiling <= floor) {
                return ceiling;
            }
            mated = 0;
            for (int i = 0; i < firstCount; i++) {
                mateOfFirst[i] = NONE;
            }
            int pairCount = 0;
            for (int i = 0; i < firstCount; i++) {
                if (choices[i] != 0 && findMate(i)) {
                    pairCount++;
                }
            }
            return pairCount;
        }

        /** How many MARKS, of the side that has fewer such, AGREE with any: no COUNT is above it. */
        private int gatherChoices(int turn, int dx, int dy) {
            int choosers = 0;
            long chosen = 0;
            for (int i = 0; i < firstCount; i++) {
                int at = turn * MOST_MARKS + i;
                int x = turnedX[at] + dx + MOST_SHIFT;
                int y = turnedY[at] + dy + MOST_SHIFT;
                int direction = turnedDirection[at];
                boolean isInSpan = x >= 0 && x < SPAN && y >= 0 && y < SPAN;
                boolean isKnown = direction >= 0 && direction < alike.length;
                choices[i] = isInSpan && isKnown ? alike[direction] & nearX[x] & nearY[y] : 0;
                chosen |= choices[i];
                choosers += choices[i] != 0 ? 1 : 0;
            }
            return Math.min(choosers, Long.bitCount(chosen));
        }

        /**
         * Finds a MARK for start, by having MARKS that are paired already take others if need be,
         * breadth first: without that the pairs would not always be as many as can be.
         */
        private boolean findMate(int start) {
            long seen = 0;
            int tail = 1;
            waiting[0] = start;
            for (int head = 0; head < tail && head < MOST_MARKS; head++) {
                int i = waiting[head];
                if (i < 0 || i >= MOST_MARKS) {
                    return false;
                }
                long free = choices[i] & ~mated;
                if (free != 0) {
                    pairAlong(i, lowest(free));
                    return true;
                }
                long fresh = choices[i] & ~seen;
                seen |= fresh;
                for (int left = Long.bitCount(fresh); left > 0 && tail < MOST_MARKS; left--) {
                    int j = lowest(fresh);
                    fresh &= fresh - 1;
                    cameFrom[j] = i;
                    waiting[tail] = mateOfSecond[j];
                    tail++;
                }
            }
            return false;
        }

        private static int lowest(long set) {
            return Math.min(Long.bitCount((set & -set) - 1), MOST_MARKS - 1);
        }

        /** Pairs first with second; whoever led to first then takes what first had, and so on back. */
        private void pairAlong(int first, int second) {
            mated |= 1L << second;
            int i = first;
            int j = second;
            for (int step = 0; step < MOST_MARKS; step++) {
                if (i < 0 || i >= MOST_MARKS || j < 0 || j >= MOST_MARKS) {
                    return;
                }
                int before = mateOfFirst[i];
                mateOfFirst[i] = j;
                mateOfSecond[j] = i;
                if (before == NONE) {
                    return;
                }
                j = before;
                i = cameFrom[j];
            }
        }
    }

    /**
     * The BEST MOVE of one PRINT against another. It is kept till a PRINT or T changes, since
     * its parts are asked for one by one, and the same ones are sought again and again.
     */
    private static final class Meeting {
        private final Board first;
        private final Board second;
        private int firstEdition = NONE;
        private int secondEdition = NONE;
        private int reachThen = NONE;
        int score = NONE;
        int turn = 0;
        int dx = 0;
        int dy = 0;

        Meeting(Board first, Board second) {
            this.first = first;
            this.second = second;
        }

        boolean stillHolds(int reach) {
            return reach == reachThen && first.edition == firstEdition && second.edition == secondEdition;
        }

        /** Goes through the MOVES in the order in which they are preferred, so only a greater COUNT wins. */
        void findBestMove(Pairing pairing, int reach) {
            firstEdition = first.edition;
            secondEdition = second.edition;
            reachThen = reach;
            score = NONE;
            pairing.prepare(first, second, reach);
            int ceiling = first.mostAgreeing(second);
            for (int far = 0; score < ceiling && far <= 2 * MOST_SHIFT; far++) {
                for (int t = 0; score < ceiling && t < TURNS; t++) {
                    for (int x = -MOST_SHIFT; x <= MOST_SHIFT; x++) {
                        int y = far - Math.abs(x);
                        if (y >= 0 && y <= MOST_SHIFT) {
                            tryMove(pairing, t, x, -y);
                        }
                        if (y > 0 && y <= MOST_SHIFT) {
                            tryMove(pairing, t, x, y);
                        }
                    }
                }
            }
        }

        private void tryMove(Pairing pairing, int t, int x, int y) {
            int pairCount = pairing.mostPairs(t, x, y, score);
            if (pairCount > score) {
                score = pairCount;
                turn = t;
                dx = x;
                dy = y;
            }
        }

        /** Brings the first PRINT's CELLS into the second; answers how many are full that were not. */
        int bringTogether() {
            int added = 0;
            for (int y = 0; y < SIDE; y++) {
                int bits = first.told[y];
                for (int x = 0; bits != 0 && x < SIDE; x++) {
                    if (((bits >>> x) & 1) != 0 && fillMoved(x, y)) {
                        added++;
                    }
                }
            }
            return added;
        }

        private boolean fillMoved(int x, int y) {
            int atX = x;
            int atY = y;
            for (int t = 0; t < turn && t < TURNS; t++) {
                int before = atX;
                atX = SIDE - 1 - atY;
                atY = before;
            }
            atX += dx;
            atY += dy;
            if (!isOnBoard(atX) || !isOnBoard(atY) || ((second.told[atY] >>> atX) & 1) != 0) {
                return false;
            }
            second.tell(atY, second.told[atY] | (1 << atX));
            return true;
        }
    }
}
