import java.util.ArrayList;
import java.util.List;

/**
 * The document's words turned into the slowest and plainest program, CELL by CELL and MOVE by MOVE,
 * with nothing kept from one call to the next, so that it shares no shortcut with RidgeBooks.
 */
final class PlainBook {
    private static final int[] STEP_X = {1, 1, 0, -1, -1, -1, 0, 1};
    private static final int[] STEP_Y = {0, 1, 1, 1, 0, -1, -1, -1};

    private record Mark(int x, int y, int direction) {
        boolean isFork() {
            return direction == 8;
        }
    }

    private record Move(int count, int turn, int dx, int dy) {
        boolean isBetterThan(Move other) {
            if (count != other.count) {
                return count > other.count;
            }
            int far = Math.abs(dx) + Math.abs(dy);
            int otherFar = Math.abs(other.dx) + Math.abs(other.dy);
            if (far != otherFar) {
                return far < otherFar;
            }
            if (turn != other.turn) {
                return turn < other.turn;
            }
            return dx != other.dx ? dx < other.dx : dy < other.dy;
        }
    }

    private final List<boolean[][]> prints = new ArrayList<>();
    private int t = 1;
    private int status = 0;

    int print() {
        if (prints.size() == 16) {
            return refuse(-5);
        }
        status = 0;
        prints.add(new boolean[24][24]);
        return prints.size() - 1;
    }

    int row(int print, int y, int bits) {
        if (y < 0 || y > 23) {
            return refuse(-1);
        }
        if (isMissing(print)) {
            return refuse(-2);
        }
        status = 0;
        for (int x = 0; x < 24; x++) {
            prints.get(print)[x][y] = (bits >> x & 1) == 1;
        }
        return 0;
    }

    int cell(int print, int x, int y, int what) {
        if (isMissing(print) || x < 0 || x > 23 || y < 0 || y > 23 || what != 0 && what != 1) {
            return -1;
        }
        boolean[][] board = what == 0 ? prints.get(print) : thinned(print);
        return board[x][y] ? 1 : 0;
    }

    int thin(int print, int y) {
        if (isMissing(print) || y < 0 || y > 23) {
            return 0;
        }
        boolean[][] board = thinned(print);
        int bits = 0;
        for (int x = 0; x < 24; x++) {
            bits += board[x][y] ? 1 << x : 0;
        }
        return bits;
    }

    int mark(int print, int i, int what) {
        if (isMissing(print) || what < 0 || what > 2) {
            return -1;
        }
        List<Mark> marks = marks(print);
        if (i == -1) {
            return what == 0 ? marks.size() : what == 1 ? marks.size() - forks(marks) : forks(marks);
        }
        if (i < 0 || i >= marks.size()) {
            return -1;
        }
        Mark mark = marks.get(i);
        return what == 0 ? mark.x : what == 1 ? mark.y : mark.direction;
    }

    int within(int within) {
        if (within < 0 || within > 3) {
            return refuse(-1);
        }
        status = 0;
        int before = t;
        t = within;
        return before;
    }

    int pairs(int p, int q, int turn, int dx, int dy) {
        boolean isNoMove = turn < 0 || turn > 3 || dx < -8 || dx > 8 || dy < -8 || dy > 8;
        if (isMissing(p) || isMissing(q) || isNoMove) {
            return -1;
        }
        return countOf(marks(p), marks(q), turn, dx, dy);
    }

    int best(int p, int q, int what) {
        if (isMissing(p) || isMissing(q) || what < 0 || what > 3) {
            return -100;
        }
        Move move = bestMove(p, q);
        return what == 0 ? move.count : what == 1 ? move.turn : what == 2 ? move.dx : move.dy;
    }

    int bound(int p, int q) {
        if (isMissing(p) || isMissing(q)) {
            return -1;
        }
        List<Mark> first = marks(p);
        List<Mark> second = marks(q);
        int ends = Math.min(first.size() - forks(first), second.size() - forks(second));
        return ends + Math.min(forks(first), forks(second));
    }

    int seek(int p, int what) {
        if (isMissing(p) || what < 0 || what > 2) {
            return -1;
        }
        List<Integer> order = new ArrayList<>();
        for (int q = 0; q < prints.size(); q++) {
            if (q != p && !marks(q).isEmpty()) {
                order.add(q);
            }
        }
        order.sort((a, b) -> bound(p, a) != bound(p, b) ? bound(p, b) - bound(p, a) : a - b);
        int found = -1;
        int foundScore = -1;
        int looked = 0;
        for (int q : order) {
            int bound = bound(p, q);
            if (looked > 0 && !(bound > foundScore || bound == foundScore && q < found)) {
                break;
            }
            looked++;
            int score = bestMove(p, q).count;
            if (score > foundScore || score == foundScore && q < found) {
                found = q;
                foundScore = score;
            }
        }
        return what == 0 ? found : what == 1 ? foundScore : looked;
    }

    /** Goes through all outcomes of n trials, each a bit that says whether it agrees. */
    long chance(int n, int k, int p) {
        if (n < 0 || n > 12 || k < 0 || k > 12 || p < 0 || p > 16) {
            return -1;
        }
        long sum = 0;
        for (int outcome = 0; outcome < 1 << n; outcome++) {
            long parts = 1;
            for (int trial = 0; trial < n; trial++) {
                parts *= (outcome >> trial & 1) == 1 ? p : 16 - p;
            }
            sum += Integer.bitCount(outcome) >= k ? parts : 0;
        }
        return sum;
    }

    int join(int p, int q) {
        if (p == q) {
            return refuse(-1);
        }
        if (isMissing(p) || isMissing(q)) {
            return refuse(-2);
        }
        status = 0;
        Move move = bestMove(p, q);
        int added = 0;
        for (int x = 0; x < 24; x++) {
            for (int y = 0; y < 24; y++) {
                Mark moved = moved(new Mark(x, y, 8), move.turn, move.dx, move.dy);
                boolean isOnBoard = moved.x >= 0 && moved.x < 24 && moved.y >= 0 && moved.y < 24;
                if (prints.get(p)[x][y] && isOnBoard && !prints.get(q)[moved.x][moved.y]) {
                    prints.get(q)[moved.x][moved.y] = true;
                    added++;
                }
            }
        }
        return added;
    }

    int count(int what) {
        if (what == 1) {
            int full = 0;
            for (int print = 0; print < prints.size(); print++) {
                for (int at = 0; at < 576; at++) {
                    full += cell(print, at / 24, at % 24, 0);
                }
            }
            return full;
        }
        return what == 0 ? prints.size() : what == 2 ? t : -1;
    }

    int status() {
        return status;
    }

    private int refuse(int why) {
        status = why;
        return why;
    }

    private boolean isMissing(int print) {
        return print < 0 || print >= prints.size();
    }

    private static boolean isFull(boolean[][] board, int x, int y) {
        return x >= 0 && x < 24 && y >= 0 && y < 24 && board[x][y];
    }

    private static boolean beside(boolean[][] board, int x, int y, int direction) {
        return isFull(board, x + STEP_X[direction % 8], y + STEP_Y[direction % 8]);
    }

    private static int fullBeside(boolean[][] board, int x, int y) {
        int full = 0;
        for (int d = 0; d < 8; d++) {
            full += beside(board, x, y, d) ? 1 : 0;
        }
        return full;
    }

    private static int changes(boolean[][] board, int x, int y) {
        int changes = 0;
        for (int d = 0; d < 8; d++) {
            changes += !beside(board, x, y, d) && beside(board, x, y, d + 1) ? 1 : 0;
        }
        return changes;
    }

    private static boolean isTaken(boolean[][] board, int x, int y, int pass) {
        int full = fullBeside(board, x, y);
        if (!board[x][y] || full < 2 || full > 6 || changes(board, x, y) != 1) {
            return false;
        }
        boolean right = isFull(board, x + 1, y);
        boolean left = isFull(board, x - 1, y);
        boolean up = isFull(board, x, y + 1);
        boolean down = isFull(board, x, y - 1);
        if (pass == 1) {
            return !(up && right && down) && !(right && down && left);
        }
        return !(up && right && left) && !(up && down && left);
    }

    private boolean[][] thinned(int print) {
        boolean[][] board = copy(prints.get(print));
        boolean isTakingAway = true;
        while (isTakingAway) {
            isTakingAway = false;
            for (int pass = 1; pass <= 2; pass++) {
                boolean[][] before = copy(board);
                for (int at = 0; at < 576; at++) {
                    if (isTaken(before, at / 24, at % 24, pass)) {
                        board[at / 24][at % 24] = false;
                        isTakingAway = true;
                    }
                }
            }
        }
        return board;
    }

    private static boolean[][] copy(boolean[][] board) {
        boolean[][] copy = new boolean[24][];
        for (int x = 0; x < 24; x++) {
            copy[x] = board[x].clone();
        }
        return copy;
    }

    private List<Mark> marks(int print) {
        boolean[][] board = thinned(print);
        List<Mark> marks = new ArrayList<>();
        for (int y = 1; y <= 22; y++) {
            for (int x = 1; x <= 22; x++) {
                if (board[x][y] && fullBeside(board, x, y) == 1) {
                    int direction = 0;
                    while (!beside(board, x, y, direction)) {
                        direction++;
                    }
                    marks.add(new Mark(x, y, direction));
                } else if (board[x][y] && changes(board, x, y) >= 3) {
                    marks.add(new Mark(x, y, 8));
                }
            }
        }
        return marks.size() > 40 ? marks.subList(0, 40) : marks;
    }

    private static int forks(List<Mark> marks) {
        int forks = 0;
        for (Mark mark : marks) {
            forks += mark.isFork() ? 1 : 0;
        }
        return forks;
    }

    private static Mark moved(Mark mark, int turn, int dx, int dy) {
        Mark moved = mark;
        for (int times = 0; times < turn; times++) {
            int direction = mark.isFork() ? 8 : (moved.direction + 2) % 8;
            moved = new Mark(23 - moved.y, moved.x, direction);
        }
        return new Mark(moved.x + dx, moved.y + dy, moved.direction);
    }

    private boolean agree(Mark moved, Mark other) {
        if (moved.isFork() != other.isFork()) {
            return false;
        }
        if (Math.abs(moved.x - other.x) > t || Math.abs(moved.y - other.y) > t) {
            return false;
        }
        int apart = Math.abs(moved.direction - other.direction);
        return moved.isFork() || apart <= 1 || apart == 7;
    }

    private int countOf(List<Mark> first, List<Mark> second, int turn, int dx, int dy) {
        boolean[][] agreeing = new boolean[first.size()][second.size()];
        for (int i = 0; i < first.size(); i++) {
            Mark moved = moved(first.get(i), turn, dx, dy);
            for (int j = 0; j < second.size(); j++) {
                agreeing[i][j] = agree(moved, second.get(j));
            }
        }
        int[] mates = new int[second.size()];
        java.util.Arrays.fill(mates, -1);
        int count = 0;
        for (int i = 0; i < first.size(); i++) {
            count += findsMate(agreeing, i, mates, new boolean[second.size()]) ? 1 : 0;
        }
        return count;
    }

    private static boolean findsMate(boolean[][] agreeing, int i, int[] mates, boolean[] asked) {
        for (int j = 0; j < mates.length; j++) {
            if (agreeing[i][j] && !asked[j]) {
                asked[j] = true;
                if (mates[j] < 0 || findsMate(agreeing, mates[j], mates, asked)) {
                    mates[j] = i;
                    return true;
                }
            }
        }
        return false;
    }

    private Move bestMove(int p, int q) {
        List<Mark> first = marks(p);
        List<Mark> second = marks(q);
        Move best = null;
        for (int turn = 0; turn < 4; turn++) {
            for (int dx = -8; dx <= 8; dx++) {
                for (int dy = -8; dy <= 8; dy++) {
                    Move move = new Move(countOf(first, second, turn, dx, dy), turn, dx, dy);
                    if (best == null || move.isBetterThan(best)) {
                        best = move;
                    }
                }
            }
        }
        return best;
    }
}
