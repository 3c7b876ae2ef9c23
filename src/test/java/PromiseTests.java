/** For each promise of the document, runs of calls whose answers were worked out by hand from its words. */
public final class PromiseTests {
    private static int wrong = 0;

    private static void due(int promise, String call, long got, long want) {
        if (got != want) {
            wrong++;
            System.out.println("promise " + promise + ": " + call + " answered " + got + ", due is " + want);
        }
    }

    public static void main(String[] args) {
        newObject();
        print();
        row();
        cell();
        thin();
        thinPasses();
        mark();
        markDirections();
        markLimits();
        within();
        pairs();
        pairsAgree();
        pairsAreAsManyAsCanBe();
        best();
        bestOfAlike();
        bestFollowsChanges();
        bound();
        seek();
        seekSpares();
        chance();
        join();
        joinTurned();
        count();
        status();
        System.out.println(wrong == 0 ? "all answers are as due" : wrong + " answers are not as due");
        if (wrong != 0) {
            System.exit(1);
        }
    }

    /** A new PRINT whose rows, from y on upwards, are these texts; x goes from the left, # is full. */
    private static int draw(RidgeBooks book, int x, int y, String... rows) {
        int print = book.print();
        for (int k = 0; k < rows.length; k++) {
            int bits = 0;
            for (int at = 0; at < rows[k].length(); at++) {
                bits |= rows[k].charAt(at) == '#' ? 1 << (x + at) : 0;
            }
            book.row(print, y + k, bits);
        }
        return print;
    }

    private static void dueMark(int promise, RidgeBooks book, int i, int x, int y, int direction) {
        due(promise, "x of mark " + i, book.mark(0, i, 0), x);
        due(promise, "y of mark " + i, book.mark(0, i, 1), y);
        due(promise, "direction of mark " + i, book.mark(0, i, 2), direction);
    }

    private static void dueBest(RidgeBooks book, int p, int q, int score, int turn, int dx, int dy) {
        String which = "of best(" + p + ", " + q + ")";
        due(9, "score " + which, book.best(p, q, 0), score);
        due(9, "turn " + which, book.best(p, q, 1), turn);
        due(9, "dx " + which, book.best(p, q, 2), dx);
        due(9, "dy " + which, book.best(p, q, 3), dy);
    }

    private static void dueSeek(RidgeBooks book, int p, int found, int score, int looked) {
        due(11, "seek(" + p + ", 0)", book.seek(p, 0), found);
        due(11, "seek(" + p + ", 1)", book.seek(p, 1), score);
        due(11, "seek(" + p + ", 2)", book.seek(p, 2), looked);
    }

    private static void newObject() {
        RidgeBooks book = new RidgeBooks();
        due(1, "count(0)", book.count(0), 0);
        due(1, "count(1)", book.count(1), 0);
        due(1, "count(2)", book.count(2), 1);
        due(1, "status()", book.status(), 0);
        due(1, "cell(0, 0, 0, 0)", book.cell(0, 0, 0, 0), RidgeBooks.NONE);
        due(1, "best(0, 0, 0)", book.best(0, 0, 0), -100);
        due(1, "seek(0, 2)", book.seek(0, 2), RidgeBooks.NONE);
        due(1, "NONE", RidgeBooks.NONE, -1);
    }

    private static void print() {
        RidgeBooks book = new RidgeBooks();
        for (int k = 0; k < 16; k++) {
            due(2, "print()", book.print(), k);
            due(2, "count(1)", book.count(1), 0);
        }
        due(2, "status()", book.status(), 0);
        due(2, "print() without room", book.print(), -5);
        due(2, "status()", book.status(), -5);
        due(2, "count(0)", book.count(0), 16);
        due(2, "row(15, 0, 1)", book.row(15, 0, 1), 0);
        due(2, "row(16, 0, 1)", book.row(16, 0, 1), -2);
        RidgeBooks other = new RidgeBooks();
        due(2, "print() of another book", other.print(), 0);
    }

    private static void row() {
        RidgeBooks book = new RidgeBooks();
        book.print();
        due(3, "row(0, 0, -1)", book.row(0, 0, -1), 0);
        due(3, "count(1)", book.count(1), 24);
        due(3, "row(0, 0, 1 << 24 | 5)", book.row(0, 0, 1 << 24 | 5), 0);
        due(3, "count(1): the row is told anew", book.count(1), 2);
        due(3, "row(0, 23, 1 << 23)", book.row(0, 23, 1 << 23), 0);
        due(3, "cell(0, 23, 23, 0)", book.cell(0, 23, 23, 0), 1);
        due(3, "row(0, 24, 1)", book.row(0, 24, 1), -1);
        due(3, "row(0, -1, 1)", book.row(0, -1, 1), -1);
        due(3, "row(7, 24, 1): -1 comes first", book.row(7, 24, 1), -1);
        due(3, "row(1, 0, 1)", book.row(1, 0, 1), -2);
        due(3, "row(-1, 0, 1)", book.row(-1, 0, 1), -2);
        due(3, "row(16, 0, 1)", book.row(16, 0, 1), -2);
        due(3, "row(MAX, MIN, 1)", book.row(Integer.MAX_VALUE, Integer.MIN_VALUE, 1), -1);
        due(3, "count(1): refused rows change nothing", book.count(1), 3);
    }

    private static void cell() {
        RidgeBooks book = new RidgeBooks();
        draw(book, 4, 6, "##", "##");
        due(4, "cell(0, 4, 6, 0)", book.cell(0, 4, 6, 0), 1);
        due(4, "cell(0, 4, 6, 1)", book.cell(0, 4, 6, 1), 0);
        due(4, "cell(0, 6, 4, 0)", book.cell(0, 6, 4, 0), 0);
        book.row(0, 7, 0);
        due(4, "cell(0, 4, 6, 1)", book.cell(0, 4, 6, 1), 1);
        due(4, "cell(0, 23, 23, 1)", book.cell(0, 23, 23, 1), 0);
        int[][] wrongOnes = {{1, 0, 0, 0}, {-1, 0, 0, 0}, {0, 24, 0, 0}, {0, -1, 0, 0}, {0, 0, 24, 0},
                {0, 0, -1, 1}, {0, 0, 0, 2}, {0, 0, 0, -1}, {Integer.MIN_VALUE, 0, 0, 1}};
        for (int[] c : wrongOnes) {
            String call = "cell(" + c[0] + ", " + c[1] + ", " + c[2] + ", " + c[3] + ")";
            due(4, call, book.cell(c[0], c[1], c[2], c[3]), RidgeBooks.NONE);
        }
    }

    private static void thin() {
        RidgeBooks book = new RidgeBooks();
        draw(book, 3, 5, "######");
        due(5, "thin: a way stays", book.thin(0, 5), 0b111111000);
        draw(book, 0, 0, "##", "##");
        due(5, "thin: a block at the corner goes", book.thin(1, 0) | book.thin(1, 1), 0);
        draw(book, 9, 9, "#");
        due(5, "thin: a lone cell stays", book.thin(2, 9), 1 << 9);
        due(5, "thin(0, 24)", book.thin(0, 24), 0);
        due(5, "thin(0, -1)", book.thin(0, -1), 0);
        due(5, "thin(3, 5)", book.thin(3, 5), 0);
        due(5, "thin(-1, 5)", book.thin(-1, 5), 0);
        due(5, "count(1): told cells stay", book.count(1), 11);
    }

    private static void thinPasses() {
        RidgeBooks book = new RidgeBooks();
        // First pass: all but the middle, the one up and the one left of it; second pass: those two.
        draw(book, 10, 10, "###", "###", "###");
        due(5, "row 10 of a square of nine", book.thin(0, 10), 0);
        due(5, "row 11 of a square of nine", book.thin(0, 11), 1 << 11);
        due(5, "row 12 of a square of nine", book.thin(0, 12), 0);
        // First pass: the lower row and both ends of the upper one.
        draw(book, 5, 10, "########", "########");
        due(5, "lower row of two", book.thin(1, 10), 0);
        due(5, "upper row of two", book.thin(1, 11), 0b111111 << 6);
        // The same at the board's edge, beyond which all are empty.
        draw(book, 0, 0, "########", "########");
        due(5, "lower row of two at the edge", book.thin(2, 0), 0);
        due(5, "upper row of two at the edge", book.thin(2, 1), 0b111111 << 1);
        // First pass: the right column and both ends of the left one.
        draw(book, 10, 5, "##", "##", "##", "##", "##", "##");
        for (int y = 5; y <= 10; y++) {
            due(5, "row " + y + " of two columns", book.thin(3, y), y == 5 || y == 10 ? 0 : 1 << 10);
        }
        // First pass: the lower row, the right end, both corners up; second: the upper row, both ends.
        draw(book, 5, 10, "########", "########", "########");
        due(5, "lowest row of three", book.thin(4, 10), 0);
        due(5, "middle row of three", book.thin(4, 11), 0b11111 << 6);
        due(5, "highest row of three", book.thin(4, 12), 0);
    }

    private static void mark() {
        RidgeBooks book = new RidgeBooks();
        draw(book, 7, 7, "...#", "...#", "...#", "#######", "...#", "...#", "...#");
        due(6, "mark(0, -1, 0)", book.mark(0, -1, 0), 5);
        due(6, "mark(0, -1, 1)", book.mark(0, -1, 1), 4);
        due(6, "mark(0, -1, 2)", book.mark(0, -1, 2), 1);
        dueMark(6, book, 0, 10, 7, 2);
        dueMark(6, book, 1, 7, 10, 0);
        dueMark(6, book, 2, 10, 10, 8);
        dueMark(6, book, 3, 13, 10, 4);
        dueMark(6, book, 4, 10, 13, 6);
        int[][] wrongOnes = {{0, 5, 0}, {0, -2, 0}, {0, 0, 3}, {0, 0, -1}, {0, -1, 3}, {0, -1, -1}, {1, -1, 0},
                {-1, 0, 0}, {0, Integer.MIN_VALUE, 0}, {0, Integer.MAX_VALUE, 1}};
        for (int[] c : wrongOnes) {
            String call = "mark(" + c[0] + ", " + c[1] + ", " + c[2] + ")";
            due(6, call, book.mark(c[0], c[1], c[2]), RidgeBooks.NONE);
        }
        book.row(0, 10, 0);
        due(6, "mark(0, -1, 0) of two columns", book.mark(0, -1, 0), 4);
        due(6, "mark(0, -1, 2) of two columns", book.mark(0, -1, 2), 0);
    }

    private static void markDirections() {
        RidgeBooks book = new RidgeBooks();
        draw(book, 7, 7, "#.....#", ".#...#.", "..#.#..", "...#...", "..#.#..", ".#...#.", "#.....#");
        due(6, "mark(0, -1, 0)", book.mark(0, -1, 0), 5);
        dueMark(6, book, 0, 7, 7, 1);
        dueMark(6, book, 1, 13, 7, 3);
        dueMark(6, book, 2, 10, 10, 8);
        dueMark(6, book, 3, 7, 13, 7);
        dueMark(6, book, 4, 13, 13, 5);
    }

    private static void markLimits() {
        RidgeBooks book = new RidgeBooks();
        draw(book, 0, 1, "######", "", "..............##########", "", "", "", "", "......#", "......#");
        book.row(0, 0, 0b1111 << 15);
        book.row(0, 22, 0b1111 << 19);
        book.row(0, 23, 0);
        due(6, "how many, not at an edge", book.mark(0, -1, 0), 6);
        dueMark(6, book, 0, 5, 1, 4);
        dueMark(6, book, 1, 14, 3, 0);
        dueMark(6, book, 5, 22, 22, 4);
        RidgeBooks full = new RidgeBooks();
        String pairsOfCells = ".##.##.##.##.##.##.##";
        draw(full, 0, 1, pairsOfCells, "", pairsOfCells, "", pairsOfCells, "", "", "...........#",
                "...........#", ".........#####", "...........#", "...........#");
        due(6, "how many, 40 at most", full.mark(0, -1, 0), 40);
        due(6, "ends of those", full.mark(0, -1, 1), 40);
        due(6, "forks of those", full.mark(0, -1, 2), 0);
        dueMark(6, full, 13, 20, 1, 4);
        dueMark(6, full, 14, 1, 3, 0);
        dueMark(6, full, 39, 17, 5, 4);
        due(6, "mark(0, 40, 0)", full.mark(0, 40, 0), RidgeBooks.NONE);
        due(10, "bound(0, 0)", full.bound(0, 0), 40);
        due(9, "best(0, 0, 0)", full.best(0, 0, 0), 40);
    }

    private static void within() {
        RidgeBooks book = new RidgeBooks();
        due(7, "within(3)", book.within(3), 1);
        due(7, "within(0)", book.within(0), 3);
        due(7, "within(4)", book.within(4), -1);
        due(7, "status()", book.status(), -1);
        due(7, "within(-1)", book.within(-1), -1);
        due(7, "within(MIN)", book.within(Integer.MIN_VALUE), -1);
        due(7, "count(2): refused ones change nothing", book.count(2), 0);
        due(7, "within(2)", book.within(2), 0);
        due(7, "status()", book.status(), 0);
        due(7, "count(2)", book.count(2), 2);
    }

    /** Ways that come in over an edge, so that each has but one END: at 5, 5 unless said otherwise. */
    private static RidgeBooks waysFromEdges() {
        RidgeBooks book = new RidgeBooks();
        draw(book, 0, 5, "######");
        draw(book, 0, 0, "#", ".#", "..#", "...#", "....#", ".....#");
        draw(book, 5, 0, "#", "#", "#", "#", "#", "#");
        draw(book, 5, 5, "###################");
        draw(book, 5, 0, ".....#", "....#", "...#", "..#", ".#", "#");
        draw(book, 18, 0, "#", "#", "#", "#", "#", "#");
        draw(book, 18, 18, "######");
        draw(book, 5, 18, "#", "#", "#", "#", "#", "#");
        return book;
    }

    private static void pairs() {
        RidgeBooks book = waysFromEdges();
        book.within(0);
        due(8, "pairs(0, 0, 0, 0, 0)", book.pairs(0, 0, 0, 0, 0), 1);
        due(8, "turned to 18, 5 and direction 6", book.pairs(0, 5, 1, 0, 0), 1);
        due(8, "turned to 18, 18 and direction 0", book.pairs(0, 6, 2, 0, 0), 1);
        due(8, "turned to 5, 18 and direction 2", book.pairs(0, 7, 3, 0, 0), 1);
        due(8, "turned the other way", book.pairs(0, 7, 1, 0, 0), 0);
        due(8, "turned, then shifted", book.pairs(0, 5, 1, 1, 0), 0);
        int[][] wrongOnes = {{0, 8, 0, 0, 0}, {8, 0, 0, 0, 0}, {-1, 0, 0, 0, 0}, {0, 0, 4, 0, 0}, {0, 0, -1, 0, 0},
                {0, 0, 0, 9, 0}, {0, 0, 0, -9, 0}, {0, 0, 0, 0, 9}, {0, 0, 0, 0, -9},
                {0, 0, 0, Integer.MIN_VALUE, 0}, {0, 0, Integer.MAX_VALUE, 0, 0}};
        for (int[] c : wrongOnes) {
            String call = "pairs(" + c[0] + ", " + c[1] + ", " + c[2] + ", " + c[3] + ", " + c[4] + ")";
            due(8, call, book.pairs(c[0], c[1], c[2], c[3], c[4]), RidgeBooks.NONE);
        }
    }

    private static void pairsAgree() {
        RidgeBooks book = waysFromEdges();
        due(8, "directions 4 and 5", book.pairs(0, 1, 0, 0, 0), 1);
        due(8, "directions 4 and 6", book.pairs(0, 2, 0, 0, 0), 0);
        due(8, "directions 6 and 5", book.pairs(2, 1, 0, 0, 0), 1);
        due(8, "directions 0 and 7", book.pairs(3, 4, 0, 0, 0), 1);
        due(8, "directions 7 and 0", book.pairs(4, 3, 0, 0, 0), 1);
        due(8, "directions 0 and 4", book.pairs(3, 0, 0, 0, 0), 0);
        for (int t = 0; t <= 3; t++) {
            book.within(t);
            due(8, "x differs by T", book.pairs(0, 0, 0, t, 0), 1);
            due(8, "y differs by T", book.pairs(0, 0, 0, 0, -t), 1);
            due(8, "both differ by T", book.pairs(0, 0, 0, -t, t), 1);
            due(8, "x differs by more than T", book.pairs(0, 0, 0, t + 1, 0), 0);
            due(8, "y differs by more than T", book.pairs(0, 0, 0, 0, t + 1), 0);
        }
        RidgeBooks forks = new RidgeBooks();
        draw(forks, 7, 7, "...#", "...#", "...#", "#######", "...#", "...#", "...#");
        draw(forks, 0, 10, "###########");
        due(8, "a fork and an end at one place", forks.pairs(1, 0, 0, 0, 0), 0);
        forks.within(3);
        due(8, "an end three beside", forks.pairs(1, 0, 0, 0, 0), 1);
        due(8, "ends and a fork", forks.pairs(0, 0, 0, 0, 0), 5);
        forks.within(0);
        due(8, "a fork and four ends, turned", forks.pairs(0, 0, 1, -3, 0), 5);
    }

    /** The first MARK may take either of two, the second one only what the first would take first. */
    private static void pairsAreAsManyAsCanBe() {
        RidgeBooks book = new RidgeBooks();
        draw(book, 0, 5, "######", "", "########");
        draw(book, 0, 5, "#######", "", "#####");
        draw(book, 0, 5, "######");
        book.within(2);
        due(8, "two pairs", book.pairs(0, 1, 0, 0, 0), 2);
        due(8, "two pairs, the other way", book.pairs(1, 0, 0, 0, 0), 2);
        due(8, "one against two", book.pairs(2, 1, 0, 0, 0), 1);
        due(8, "two against one", book.pairs(1, 2, 0, 0, 0), 1);
    }

    private static void best() {
        RidgeBooks book = new RidgeBooks();
        draw(book, 0, 5, "######");
        draw(book, 0, 9, "####");
        draw(book, 0, 5, "##############");
        draw(book, 0, 5, "###############");
        draw(book, 0, 5, "################");
        book.print();
        draw(book, 0, 13, "##############");
        dueBest(book, 0, 1, 1, 0, -1, 3);
        dueBest(book, 1, 0, 1, 0, 1, -3);
        dueBest(book, 0, 3, 1, 0, 8, 0);
        dueBest(book, 0, 4, 0, 0, 0, 0);
        dueBest(book, 0, 5, 0, 0, 0, 0);
        dueBest(book, 5, 5, 0, 0, 0, 0);
        dueBest(book, 0, 0, 1, 0, 0, 0);
        book.within(0);
        dueBest(book, 0, 1, 1, 0, -2, 4);
        dueBest(book, 0, 2, 1, 0, 8, 0);
        dueBest(book, 2, 0, 1, 0, -8, 0);
        dueBest(book, 0, 6, 1, 0, 8, 8);
        dueBest(book, 6, 0, 1, 0, -8, -8);
        dueBest(book, 2, 6, 1, 0, 0, 8);
        dueBest(book, 6, 2, 1, 0, 0, -8);
        dueBest(book, 0, 3, 0, 0, 0, 0);
        int[][] wrongOnes = {{0, 7, 0}, {7, 0, 0}, {-1, 0, 1}, {0, 16, 2}, {0, 1, 4}, {0, 1, -1},
                {Integer.MIN_VALUE, Integer.MAX_VALUE, 0}};
        for (int[] c : wrongOnes) {
            due(9, "best(" + c[0] + ", " + c[1] + ", " + c[2] + ")", book.best(c[0], c[1], c[2]), -100);
        }
    }

    /** A PRINT with one FORK and nothing else: its four ways leave over the edges. */
    private static int cross(RidgeBooks book, int x, int y) {
        int print = book.print();
        for (int k = 0; k < 24; k++) {
            book.row(print, k, k == y ? -1 : 1 << x);
        }
        return print;
    }

    private static void bestOfAlike() {
        RidgeBooks crosses = new RidgeBooks();
        cross(crosses, 10, 10);
        cross(crosses, 12, 12);
        dueBest(crosses, 0, 1, 1, 2, 0, 0);
        crosses.within(3);
        dueBest(crosses, 0, 1, 1, 0, 0, 0);
        RidgeBooks book = new RidgeBooks();
        book.within(0);
        draw(book, 0, 5, "######");
        draw(book, 0, 3, "######", "", "", "", "######");
        draw(book, 5, 0, "#", "#", "#", "#", "#", "#");
        draw(book, 3, 0, "#...#", "#...#", "#...#", "#...#", "#...#", "#...#");
        draw(book, 0, 4, "#######", "", "#####");
        draw(book, 0, 5, "######", "", "", "", "######");
        draw(book, 0, 5, "######", "", "", "", "", "", "##########", "", "", "", "##########");
        dueBest(book, 0, 1, 1, 0, 0, -2);
        dueBest(book, 2, 3, 1, 0, -2, 0);
        dueBest(book, 0, 4, 1, 0, -1, 1);
        dueBest(book, 5, 6, 2, 0, 4, 6);
    }

    private static void bestFollowsChanges() {
        RidgeBooks book = new RidgeBooks();
        book.within(0);
        draw(book, 0, 5, "######");
        draw(book, 0, 9, "####");
        dueBest(book, 0, 1, 1, 0, -2, 4);
        book.row(0, 5, 0b111);
        dueBest(book, 0, 1, 1, 0, 1, 4);
        book.row(1, 9, 0b11111);
        dueBest(book, 0, 1, 1, 0, 2, 4);
        book.within(3);
        dueBest(book, 0, 1, 1, 0, 0, 1);
        due(13, "join(0, 1)", book.join(0, 1), 3);
        due(6, "mark(1, -1, 0) after it", book.mark(1, -1, 0), 2);
        dueBest(book, 0, 1, 1, 0, 0, 0);
    }

    private static void bound() {
        RidgeBooks book = new RidgeBooks();
        draw(book, 7, 7, "...#", "...#", "...#", "#######", "...#", "...#", "...#");
        draw(book, 5, 10, "###########", ".....#", ".....#", ".....#", ".....#");
        draw(book, 5, 10, "#######");
        cross(book, 3, 3);
        book.print();
        due(10, "bound(0, 0)", book.bound(0, 0), 5);
        due(10, "bound(0, 1)", book.bound(0, 1), 4);
        due(10, "bound(1, 0)", book.bound(1, 0), 4);
        due(10, "bound(0, 2)", book.bound(0, 2), 2);
        due(10, "bound(0, 3)", book.bound(0, 3), 1);
        due(10, "bound(2, 3)", book.bound(2, 3), 0);
        due(10, "bound(0, 4)", book.bound(0, 4), 0);
        due(10, "bound(0, 5)", book.bound(0, 5), RidgeBooks.NONE);
        due(10, "bound(5, 0)", book.bound(5, 0), RidgeBooks.NONE);
        due(10, "bound(-1, 0)", book.bound(-1, 0), RidgeBooks.NONE);
        due(10, "bound(0, MAX)", book.bound(0, Integer.MAX_VALUE), RidgeBooks.NONE);
    }

    private static void seek() {
        RidgeBooks book = new RidgeBooks();
        book.within(0);
        draw(book, 0, 5, "######", "", "", "", "######");
        dueSeek(book, 0, -1, -1, 0);
        book.print();
        draw(book, 4, 4, "##", "##");
        dueSeek(book, 0, -1, -1, 0);
        dueSeek(book, 1, 0, 0, 1);
        due(11, "seek(3, 0)", book.seek(3, 0), RidgeBooks.NONE);
        due(11, "seek(3, 2)", book.seek(3, 2), RidgeBooks.NONE);
        due(11, "seek(-1, 1)", book.seek(-1, 1), RidgeBooks.NONE);
        due(11, "seek(0, 3)", book.seek(0, 3), RidgeBooks.NONE);
        due(11, "seek(0, -1)", book.seek(0, -1), RidgeBooks.NONE);
    }

    private static void seekSpares() {
        RidgeBooks book = new RidgeBooks();
        book.within(0);
        draw(book, 0, 5, "######", "", "", "", "######");
        draw(book, 0, 5, "######");
        book.row(draw(book, 0, 5, "######"), 20, 0b111111 << 18);
        draw(book, 0, 5, "######");
        // PRINT 2 has BOUND 2 and SCORE 1; 1 is looked at, being lower, and 3 is not.
        dueSeek(book, 0, 1, 1, 2);
        // PRINT 1 now has BOUND 1 and SCORE 0: its END lies too far off.
        book.row(1, 5, 0b11 << 22);
        dueSeek(book, 0, 2, 1, 2);
        // PRINT 4 has BOUND 2 and SCORE 2: 2 and 4 are looked at, 1 and 3 spared.
        draw(book, 0, 8, "########", "", "", "", "########");
        dueSeek(book, 0, 4, 2, 2);
        // Of alike ones the lower, without looking at the other.
        draw(book, 0, 8, "########", "", "", "", "########");
        dueSeek(book, 0, 4, 2, 2);
    }

    private static void chance() {
        long[][] dues = {{0, 0, 0, 1}, {0, 0, 16, 1}, {0, 1, 16, 0}, {1, 1, 16, 16}, {1, 1, 0, 0}, {1, 0, 0, 16},
                {1, 1, 5, 5}, {3, 2, 8, 2048}, {2, 1, 1, 31}, {2, 2, 1, 1}, {12, 12, 1, 1}, {12, 1, 0, 0},
                {12, 12, 15, 129746337890625L}, {12, 0, 3, 1L << 48}, {12, 12, 16, 1L << 48}, {3, 12, 16, 0},
                {3, 13, 16, -1}, {13, 0, 1, -1}, {-1, 0, 1, -1}, {1, -1, 1, -1}, {1, 1, -1, -1}, {1, 1, 17, -1},
                {Integer.MIN_VALUE, 0, 0, -1}, {0, Integer.MAX_VALUE, 0, -1}};
        RidgeBooks book = new RidgeBooks();
        for (long[] d : dues) {
            String call = "chance(" + d[0] + ", " + d[1] + ", " + d[2] + ")";
            due(12, call, book.chance((int) d[0], (int) d[1], (int) d[2]), d[3]);
        }
    }

    private static void join() {
        RidgeBooks book = new RidgeBooks();
        draw(book, 3, 5, "######");
        draw(book, 5, 7, "######");
        draw(book, 4, 7, "##", "##");
        due(13, "best(0, 1, 2)", book.best(0, 1, 2), 1);
        due(13, "join(0, 1)", book.join(0, 1), 6);
        due(13, "cell(1, 4, 6, 0)", book.cell(1, 4, 6, 0), 1);
        due(13, "cell(1, 9, 6, 0)", book.cell(1, 9, 6, 0), 1);
        due(13, "cell(1, 10, 6, 0)", book.cell(1, 10, 6, 0), 0);
        due(13, "count(1)", book.count(1), 22);
        due(13, "join(2, 1): cells as told, also where there are no marks", book.join(2, 1), 3);
        due(13, "join(2, 1) again", book.join(2, 1), 0);
        due(13, "count(1)", book.count(1), 25);
        due(13, "join(0, 0)", book.join(0, 0), -1);
        due(13, "join(7, 7): -1 comes first", book.join(7, 7), -1);
        due(13, "join(0, 3)", book.join(0, 3), -2);
        due(13, "join(3, 0)", book.join(3, 0), -2);
        due(13, "join(-1, 0)", book.join(-1, 0), -2);
        due(13, "join(MAX, MIN)", book.join(Integer.MAX_VALUE, Integer.MIN_VALUE), -2);
        due(13, "count(1): refused ones change nothing", book.count(1), 25);
    }

    private static void joinTurned() {
        RidgeBooks book = new RidgeBooks();
        draw(book, 0, 5, "######");
        draw(book, 18, 0, "#", "#", "#", "#");
        dueBest(book, 0, 1, 1, 1, 0, -1);
        due(13, "join(0, 1): one cell lies beyond the board", book.join(0, 1), 1);
        due(13, "cell(1, 18, 4, 0)", book.cell(1, 18, 4, 0), 1);
        due(13, "cell(1, 18, 5, 0)", book.cell(1, 18, 5, 0), 0);
        due(13, "thin(1, 4)", book.thin(1, 4), 1 << 18);
        due(13, "mark(1, 0, 1)", book.mark(1, 0, 1), 4);
        due(13, "count(1)", book.count(1), 11);
    }

    private static void count() {
        RidgeBooks book = new RidgeBooks();
        draw(book, 0, 0, "###");
        draw(book, 20, 23, "####");
        book.within(3);
        due(14, "count(0)", book.count(0), 2);
        due(14, "count(1)", book.count(1), 7);
        due(14, "count(2)", book.count(2), 3);
        due(14, "count(3)", book.count(3), RidgeBooks.NONE);
        due(14, "count(-1)", book.count(-1), RidgeBooks.NONE);
        due(14, "count(MIN)", book.count(Integer.MIN_VALUE), RidgeBooks.NONE);
    }

    private static void status() {
        RidgeBooks book = new RidgeBooks();
        book.cell(9, 9, 9, 9);
        book.best(3, 3, 3);
        book.chance(99, 0, 0);
        due(15, "status() ahead of any", book.status(), 0);
        book.row(0, 0, 0);
        due(15, "status() after row", book.status(), -2);
        book.thin(5, 5);
        book.pairs(5, 5, 5, 5, 5);
        book.seek(5, 5);
        book.count(5);
        due(15, "status() after calls that it does not tell of", book.status(), -2);
        due(15, "status() again", book.status(), -2);
        book.print();
        due(15, "status() after print", book.status(), 0);
        book.row(0, 24, 0);
        due(15, "status() after row", book.status(), -1);
        book.row(0, 23, 0);
        due(15, "status() after row", book.status(), 0);
        book.join(0, 1);
        due(15, "status() after join", book.status(), -2);
        book.within(3);
        due(15, "status() after within", book.status(), 0);
        book.within(4);
        due(15, "status() after within", book.status(), -1);
        book.print();
        book.join(1, 1);
        due(15, "status() after join", book.status(), -1);
        book.join(0, 1);
        due(15, "status() after join", book.status(), 0);
    }
}
