/** The boundary cases that the document names of SOUGHT, CHANCE and JOINED: terms IV to VI, promises 10 to 13. */
public final class SeekSentenceTests {
    private static final int NONE = RidgeBooks.NONE;
    private static final long ALL_PARTS = 1L << 48;

    public static void main(String[] args) {
        amongAllOthers();
        notEmptyOfMarks();
        boundOfBoth();
        greatestBoundFirst();
        lowerOfAlikeBounds();
        boundAboveBest();
        boundJustBest();
        greatestScoreIsTold();
        boundNone();
        seekOfSixteen();
        bound();
        seek();
        chanceRanges();
        chanceAboveN();
        chanceParts();
        joinAsTold();
        joinOnTheBoard();
        joinByTheBestMove();
        join();
        Sentence.end();
    }

    /** Rows of full CELLS from the left edge up to x, every fourth row from 5 on: one END each, DIRECTION 4. */
    private static String[] ways(int... upTo) {
        String[] rows = new String[4 * upTo.length];
        java.util.Arrays.fill(rows, "");
        for (int k = 0; k < upTo.length; k++) {
            rows[4 * k] = "#".repeat(upTo[k] + 1);
        }
        return rows;
    }

    /**
     * PRINT 0 is sought: three ENDS at x 5. In the others an END at 5 AGREES with it, one at 22 lies too far
     * off for any MOVE, so the number of ENDS is the BOUND and that of those at 5 the SCORE. T is 0.
     */
    private static Sentence book(String words, int[]... others) {
        Sentence book = Sentence.says("Term IV", words).due("within(0)", 1).draw(0, 5, ways(5, 5, 5));
        for (int k = 0; k < others.length; k++) {
            book.draw(0, 5, ways(others[k])).due("bound(0, " + (k + 1) + ")", others[k].length);
        }
        return book;
    }

    private static int[] ends(int... x) {
        return x;
    }

    private static void amongAllOthers() {
        String words = "PRINT p among all others";
        book(words).dueSeek(0, NONE, NONE, 0);
        book(words, ends(5, 5, 5)).dueSeek(0, 1, 3, 1).dueSeek(1, 0, 3, 1);
        book(words, ends(22)).dueSeek(0, 1, 0, 1).dueSeek(1, 0, 0, 1);
    }

    private static void notEmptyOfMarks() {
        String words = "that are not empty of MARKS";
        // No CELL, CELLS that are all thinned away, a lone one, and ENDS at the edges alone: no MARKS.
        book(words).due("print()", 1).draw(4, 4, "##", "##").draw(9, 9, "#").draw(0, 0, "########################")
                .dueSeek(0, NONE, NONE, 0)
                .dueSeek(1, 0, 0, 1)
                .draw(0, 5, ways(5))
                .dueSeek(0, 5, 1, 1)
                .due("row(5, 5, 0)", 0)
                .dueSeek(0, NONE, NONE, 0)
                .due("row(1, 5, 3)", 0)
                .dueSeek(0, 1, 1, 1);
    }

    private static void boundOfBoth() {
        Sentence.says("Term IV", "the lesser number of ENDS of both and the lesser number of FORKS, together")
                .draw(8, 8, "..#", "..#", "#####", "..#", "..#")
                .draw(8, 8, "#####", "..#", "..#")
                .draw(8, 8, "#####")
                .draw(0, 8, "########################", "..........#", "..........#")
                .due("row(3, 6, 1024)", 0).due("row(3, 7, 1024)", 0)
                .due("print()", 4)
                .due("bound(0, 0)", 5).due("bound(0, 1)", 4).due("bound(1, 0)", 4)
                .due("bound(0, 2)", 2).due("bound(2, 0)", 2).due("bound(0, 3)", 3)
                .due("bound(2, 3)", 2).due("bound(3, 2)", 2)
                .dueEach(0, "bound(0, 4)", "bound(4, 0)", "bound(4, 4)");
        // Just the first 40 MARKS count: a 41st END and a FORK behind them do not.
        String seven = ".##.##.##.##.##.##.##";
        Sentence.says("Term IV", "the lesser number of ENDS of both and the lesser number of FORKS, together")
                .draw(0, 1, seven, "", seven, "", seven, "", "", "", "..........#", "..........#",
                        "########################")
                .draw(0, 10, "..........#", "..........#", "########################", "..........#", "..........#")
                .due("bound(0, 0)", 40)
                .due("bound(0, 1)", 2)
                .due("bound(1, 1)", 3);
    }

    private static void greatestBoundFirst() {
        book("looked at in order of BOUNDS, the greatest first", ends(22), ends(5, 22), ends(5, 5, 5))
                .dueSeek(0, 3, 3, 1);
    }

    private static void lowerOfAlikeBounds() {
        book("of alike ones the lower PRINT", ends(5, 5, 5), ends(5, 5, 5)).dueSeek(0, 1, 3, 1);
        book("of alike ones the lower PRINT", ends(22), ends(5, 5), ends(5, 5)).dueSeek(0, 2, 2, 1);
    }

    private static void boundAboveBest() {
        String words = "as long as the next one's BOUND is above the best SCORE so far";
        // Above it by one: looked at. The same, with a higher number, or less, with a lower one: spared.
        book(words, ends(5, 5), ends(5, 22, 22)).dueSeek(0, 1, 2, 2);
        book(words, ends(5, 5, 22), ends(5, 5)).dueSeek(0, 1, 2, 1);
        book(words, ends(5), ends(5, 5, 22)).dueSeek(0, 2, 2, 1);
    }

    private static void boundJustBest() {
        String words = "or just it and its number below that of the best one";
        book(words, ends(5, 5), ends(5, 5, 22)).dueSeek(0, 1, 2, 2);
        book(words, ends(22, 22), ends(5, 5, 22)).dueSeek(0, 2, 2, 2);
        // Once the lower one is the best, the next of the same BOUND is above it.
        book(words, ends(5, 5), ends(5, 5), ends(5, 5, 22)).dueSeek(0, 1, 2, 2);
        // While it is not, the next one is still below the best.
        book(words, ends(22, 22), ends(5, 5), ends(5, 5, 22)).dueSeek(0, 2, 2, 3);
    }

    private static void greatestScoreIsTold() {
        String words = "The one with the greatest SCORE is told, of alike ones the lower.";
        book(words, ends(5, 22, 22), ends(5, 5, 22)).dueSeek(0, 2, 2, 2);
        book(words, ends(5, 5, 22), ends(5, 22, 22)).dueSeek(0, 1, 2, 2);
        book(words, ends(5, 22, 22), ends(5, 22, 22)).dueSeek(0, 1, 1, 2);
        book(words, ends(5, 22), ends(5, 22, 22)).dueSeek(0, 1, 1, 2);
        book(words, ends(22), ends(22), ends(22)).dueSeek(0, 1, 0, 3);
        // It follows T: within 3 the way up to 16 AGREES by 8, 0.
        book(words, ends(16), ends(5)).dueSeek(0, 2, 1, 2).due("within(3)", 0).dueSeek(0, 1, 1, 1);
    }

    /** A row over the whole board and a column from row y on upwards: a FORK where they meet, and no END. */
    private static Sentence drawFork(Sentence book, int y) {
        String[] rows = new String[24 - y];
        java.util.Arrays.fill(rows, "..........#");
        rows[0] = "########################";
        return book.draw(0, y, rows);
    }

    private static void boundNone() {
        String words = "as long as the next one's BOUND is above the best SCORE so far, "
                + "or just it and its number below that of the best one";
        // There is no SCORE yet ahead of the first, so it is looked at though its BOUND is 0; the next is spared.
        Sentence two = book(words);
        drawFork(two, 12);
        drawFork(two, 12).due("bound(0, 1)", 0).dueSeek(0, 1, 0, 1);
        // BOUND 1 and SCORE 0 come first; then BOUND 0 is just that, with a number below.
        Sentence below = book(words);
        drawFork(below, 12).draw(0, 5, ways(22)).dueSeek(0, 1, 0, 2);
        // The same with a number above: spared.
        Sentence above = book(words, ends(22));
        drawFork(above, 12).dueSeek(0, 1, 0, 1);
    }

    private static void seekOfSixteen() {
        Sentence book = book("PRINT p among all others");
        for (int q = 1; q <= 14; q++) {
            book.draw(0, 5, ways(22));
        }
        book.draw(0, 5, ways(5))
                .dueSeek(0, 15, 1, 15)
                .dueSeek(15, 0, 1, 1)
                .dueSeek(7, 1, 1, 2)
                .due("print()", -5)
                .dueSeek(0, 15, 1, 15);
    }

    private static void bound() {
        Sentence.says("Promise 10", "BOUND of p and q; NONE.")
                .due("bound(0, 0)", NONE)
                .draw(0, 5, ways(5)).due("print()", 1)
                .due("bound(0, 0)", 1)
                .dueEach(0, "bound(0, 1)", "bound(1, 0)", "bound(1, 1)")
                .dueEach(NONE, "bound(0, 2)", "bound(2, 0)", "bound(2, 2)", "bound(-1, 0)", "bound(0, -1)")
                .dueEach(NONE, "bound(16, 0)", "bound(0, 16)", "bound(MIN, 0)", "bound(0, MAX)");
    }

    private static void seek() {
        Sentence.says("Promise 11", "NONE without PRINT")
                .dueEach(NONE, "seek(0, 0)", "seek(0, 1)", "seek(0, 2)")
                .draw(0, 5, ways(5)).draw(0, 5, ways(5))
                .dueEach(NONE, "seek(2, 0)", "seek(2, 1)", "seek(2, 2)", "seek(-1, 0)", "seek(-1, 1)", "seek(-1, 2)")
                .dueEach(NONE, "seek(16, 0)", "seek(16, 1)", "seek(16, 2)", "seek(MIN, 2)", "seek(MAX, 2)")
                .dueEach(NONE, "seek(0, -1)", "seek(0, 3)", "seek(0, MIN)", "seek(0, MAX)", "seek(2, 3)");
        Sentence.says("Promise 11", "(0, 1: if there is no other one)")
                .draw(0, 5, ways(5))
                .dueEach(NONE, "seek(0, 0)", "seek(0, 1)").due("seek(0, 2)", 0)
                .due("print()", 1)
                .dueEach(NONE, "seek(0, 0)", "seek(0, 1)").due("seek(0, 2)", 0)
                .due("seek(1, 0)", 0).due("seek(1, 1)", 0).due("seek(1, 2)", 1)
                .due("row(0, 5, 0)", 0)
                .dueEach(NONE, "seek(1, 0)", "seek(1, 1)").due("seek(1, 2)", 0);
    }

    private static void chanceRanges() {
        Sentence.says("Term V", "of n (0 .. 12) agree")
                .due("chance(0, 0, 5)", 1).due("chance(12, 0, 5)", ALL_PARTS)
                .dueEach(NONE, "chance(-1, 0, 5)", "chance(13, 0, 5)", "chance(MIN, 0, 5)", "chance(MAX, 0, 5)");
        Sentence.says("Term V", "at least k (0 .. 12; above n: 0)")
                .due("chance(12, 0, 1)", ALL_PARTS).due("chance(12, 12, 1)", 1)
                .dueEach(NONE, "chance(12, -1, 1)", "chance(12, 13, 1)", "chance(12, MIN, 1)", "chance(12, MAX, 1)")
                .dueEach(NONE, "chance(0, -1, 1)", "chance(0, 13, 1)", "chance(3, 13, 16)");
        Sentence.says("Term V", "if each does so with p / 16 (p 0 .. 16)")
                .due("chance(1, 1, 0)", 0).due("chance(1, 1, 1)", 1)
                .due("chance(1, 1, 15)", 15).due("chance(1, 1, 16)", 16)
                .due("chance(12, 0, 0)", ALL_PARTS).due("chance(12, 1, 0)", 0).due("chance(12, 12, 16)", ALL_PARTS)
                .dueEach(1, "chance(0, 0, 0)", "chance(0, 0, 16)")
                .dueEach(NONE, "chance(1, 1, -1)", "chance(1, 1, 17)", "chance(1, 1, MIN)", "chance(1, 1, MAX)")
                .dueEach(NONE, "chance(0, 0, -1)", "chance(0, 0, 17)", "chance(1, 2, 17)", "chance(0, 12, -1)");
        Sentence.says("Promise 12", "CHANCE; NONE.")
                .due("chance(3, 2, 8)", 2048)
                .dueEach(NONE, "chance(13, 13, 17)", "chance(-1, -1, -1)", "chance(MIN, MAX, MIN)");
    }

    private static void chanceAboveN() {
        Sentence book = Sentence.says("Term V", "above n: 0");
        for (int n = 0; n < 12; n++) {
            book.due("chance(" + n + ", " + n + ", 16)", 1L << (4 * n));
            book.due("chance(" + n + ", " + (n + 1) + ", 16)", 0);
            book.due("chance(" + n + ", 12, 16)", 0);
        }
    }

    private static void chanceParts() {
        // 15 to the 12th, what is left of all parts, and all but 1 of 12: 12 * 15 + 1 parts.
        long none = 129746337890625L;
        Sentence.says("Term V", "in 16 to the n-th parts")
                .due("chance(12, 12, 15)", none)
                .due("chance(12, 1, 1)", ALL_PARTS - none)
                .due("chance(12, 11, 1)", 181)
                .due("chance(2, 1, 1)", 31)
                .due("chance(3, 2, 8)", 2048);
    }

    private static void joinAsTold() {
        // The square and the lone CELL have no MARK; THINNED the square would be gone.
        Sentence.says("Term VI", "each full CELL of p (as told)")
                .draw(0, 5, "######", "", "", "", "", "..........##", "..........##", "", "........#")
                .draw(0, 5, "######")
                .due("join(0, 1)", 5)
                .dueEach(1, "cell(1, 10, 10, 0)", "cell(1, 11, 10, 0)", "cell(1, 10, 11, 0)", "cell(1, 11, 11, 0)")
                .due("cell(1, 8, 13, 0)", 1)
                .due("count(1)", 22);
    }

    /** What PRINT 1 has besides, after PRINT 0 was JOINED to it: just the CELL at x, y. */
    private static void dueOneMore(Sentence book, int x, int y, int fullBefore) {
        book.due("cell(1, " + x + ", " + y + ", 0)", 0)
                .due("count(1)", fullBefore)
                .due("join(0, 1)", 1)
                .due("status()", 0)
                .due("cell(1, " + x + ", " + y + ", 0)", 1)
                .due("cell(1, " + x + ", " + y + ", 1)", 1)
                .due("count(1)", fullBefore + 1)
                .due("join(0, 1)", 0)
                .due("status()", 0);
    }

    private static void joinOnTheBoard() {
        String words = "that lies on the board then is full in q";
        // PRINT 0 has a way and two lone CELLS, the first of which comes just to the edge, the other beyond it.
        String[] six = {"#", "#", "#", "#", "#", "#"};
        String[] fourteen = {"#", "#", "#", "#", "#", "#", "#", "#", "#", "#", "#", "#", "#", "#"};
        Sentence right = Sentence.says("Term VI", words).due("within(0)", 1)
                .draw(0, 5, ways(5)).dueEach(0, "row(0, 20, 32768)", "row(0, 22, 65536)")
                .draw(0, 5, ways(13)).dueBest(0, 1, 1, 0, 8, 0);
        dueOneMore(right, 23, 20, 22);
        Sentence left = Sentence.says("Term VI", words).due("within(0)", 1)
                .draw(0, 5, ways(13)).dueEach(0, "row(0, 20, 256)", "row(0, 22, 128)")
                .draw(0, 5, ways(5)).dueBest(0, 1, 1, 0, -8, 0);
        dueOneMore(left, 0, 20, 22);
        Sentence up = Sentence.says("Term VI", words).due("within(0)", 1)
                .draw(5, 0, six).dueEach(0, "row(0, 15, 1048576)", "row(0, 16, 4194304)")
                .draw(5, 0, fourteen).dueBest(0, 1, 1, 0, 0, 8);
        dueOneMore(up, 20, 23, 22);
        Sentence down = Sentence.says("Term VI", words).due("within(0)", 1)
                .draw(5, 0, fourteen).dueEach(0, "row(0, 8, 1048608)", "row(0, 7, 4194336)")
                .draw(5, 0, six).dueBest(0, 1, 1, 0, 0, -8);
        dueOneMore(down, 20, 0, 22);
        // Turned three times 10, 20 goes to 20, 13; the way's first two CELLS end beyond the board.
        Sentence turned = Sentence.says("Term VI", words).due("within(0)", 1)
                .draw(0, 5, ways(5)).due("row(0, 20, 1024)", 0)
                .draw(5, 20, "#", "#", "#", "#").dueBest(0, 1, 1, 3, 0, 2);
        dueOneMore(turned, 20, 15, 11);
    }

    private static void joinByTheBestMove() {
        String words = "PRINT p, MOVED by the BEST MOVE against q, comes into q";
        // Which MOVE that is depends on T.
        Sentence.says("Term VI", words)
                .draw(0, 5, "######", "", "", "", "", "..........#")
                .draw(0, 5, "##########").draw(0, 5, "##########")
                .due("join(0, 1)", 1).due("cell(1, 13, 10, 0)", 1)
                .due("within(0)", 1)
                .due("join(0, 2)", 1).due("cell(2, 14, 10, 0)", 1).due("cell(2, 13, 10, 0)", 0);
        // Without MARKS it is the least MOVE: all comes over as it is; p stays as it was.
        Sentence full = Sentence.says("Term VI", words).due("print()", 0).due("print()", 1);
        for (int y = 0; y < 24; y++) {
            full.due("row(0, " + y + ", -1)", 0);
        }
        full.due("join(1, 0)", 0).due("count(1)", 576)
                .due("join(0, 1)", 576).due("count(1)", 1152)
                .due("join(0, 1)", 0).due("count(1)", 1152)
                .due("thin(1, 12)", 2048);
        // What q had stays, and its MARKS follow.
        Sentence.says("Term VI", words)
                .draw(3, 5, "######").draw(5, 7, "######")
                .due("best(0, 1, 0)", 2)
                .due("join(0, 1)", 6)
                .dueEach(1, "cell(1, 5, 7, 0)", "cell(1, 10, 7, 0)", "cell(1, 4, 6, 0)", "cell(1, 9, 6, 0)")
                .dueEach(0, "cell(1, 10, 6, 0)", "cell(1, 4, 7, 0)", "cell(0, 4, 6, 0)")
                .due("thin(0, 5)", 504)
                .due("count(1)", 18);
    }

    private static void join() {
        Sentence.says("Promise 13", "how many CELLS of q are full that were not")
                .draw(0, 5, ways(5)).draw(0, 5, ways(5)).due("print()", 2)
                .due("join(0, 1)", 0).due("status()", 0)
                .due("join(0, 2)", 6)
                .due("join(2, 0)", 0)
                .due("count(1)", 18);
        Sentence.says("Promise 13", "-1 p and q are one; -2.")
                .due("join(0, 0)", -1).due("join(0, 1)", -2)
                .draw(0, 5, ways(5)).draw(0, 5, ways(9))
                .dueEach(-1, "join(0, 0)", "join(1, 1)", "join(2, 2)", "join(-1, -1)", "join(16, 16)", "join(MAX, MAX)")
                .due("status()", -1)
                .dueEach(-2, "join(0, 2)", "join(2, 0)", "join(2, 3)", "join(0, -1)", "join(-1, 0)", "join(16, 0)")
                .dueEach(-2, "join(0, 16)", "join(MIN, 0)", "join(0, MAX)", "join(MIN, MAX)")
                .due("status()", -2)
                .due("count(0)", 2).due("count(1)", 16);
    }
}
