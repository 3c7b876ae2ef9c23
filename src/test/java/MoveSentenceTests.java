/** The boundary cases that the document names of MOVES and of what AGREES: term III, promises 7 to 9. */
public final class MoveSentenceTests {
    private static final int NONE = RidgeBooks.NONE;
    private static final int NOTHING = -100;

    public static void main(String[] args) {
        turns();
        turnThenShift();
        shifts();
        beyondTheBoard();
        restByEight();
        reachAtFirst();
        differByReach();
        endsOrForks();
        directions();
        asManyAsCanBe();
        noMarkInTwo();
        greatestCount();
        leastShift();
        leastTurn();
        leastDx();
        leastDy();
        outermostMoves();
        within();
        pairs();
        best();
        Sentence.end();
    }

    /** A row of full CELLS from the left edge up to x: its one MARK is the END there, DIRECTION 4. */
    private static String upTo(int x) {
        return "#".repeat(x + 1);
    }

    /** A column of full CELLS, as rows; from the lower edge up its one MARK is the END above, DIRECTION 6. */
    private static String[] column(int height) {
        String[] rows = new String[height];
        java.util.Arrays.fill(rows, "#");
        return rows;
    }

    private static String pairsCall(int p, int q, int turn, int dx, int dy) {
        return "pairs(" + p + ", " + q + ", " + turn + ", " + dx + ", " + dy + ")";
    }

    /** PRINTS 0 to 3: one END each, in the corners that 1, 1 goes to by turning 0 to 3 times; T is 0. */
    private static Sentence corners(String words) {
        return Sentence.says("Term III", words)
                .due("within(0)", 1)
                .draw(0, 0, "#.", ".#")
                .draw(22, 0, ".#", "#.")
                .draw(22, 22, "#.", ".#")
                .draw(0, 22, ".#", "#.");
    }

    private static void turns() {
        Sentence book = corners("a turn t 0 .. 3");
        for (int turn = 0; turn < 4; turn++) {
            for (int q = 0; q < 4; q++) {
                book.due(pairsCall(0, q, turn, 0, 0), q == turn ? 1 : 0);
            }
            book.dueBest(0, turn, 1, turn, 0, 0);
        }
        book.dueEach(NONE, "pairs(0, 0, -1, 0, 0)", "pairs(0, 0, 4, 0, 0)")
                .dueEach(NONE, "pairs(0, 0, MIN, 0, 0)", "pairs(0, 0, MAX, 0, 0)");
    }

    private static void turnThenShift() {
        // 1, 1 goes to 22, 1 and then to 20, 4; shifted first it would go to 19, -1.
        corners("a CELL x, y goes t times to 23 - y, x, then to x + dx, y + dy")
                .draw(20, 1, "...#", "..#.", ".#..", "#...")
                .due("pairs(0, 4, 1, -2, 3)", 1)
                .due("pairs(0, 4, 1, 3, -2)", 0);
    }

    private static void shifts() {
        String words = "a shift dx, dy (-8 .. 8 each)";
        Sentence.says("Term III", words)
                .due("within(0)", 1)
                .draw(0, 10, upTo(10)).draw(0, 10, upTo(2)).draw(0, 10, upTo(18))
                .draw(0, 2, upTo(10)).draw(0, 18, upTo(10))
                .dueEach(1, "pairs(0, 1, 0, -8, 0)", "pairs(0, 2, 0, 8, 0)")
                .dueEach(1, "pairs(0, 3, 0, 0, -8)", "pairs(0, 4, 0, 0, 8)")
                .dueEach(0, "pairs(0, 1, 0, -7, 0)", "pairs(0, 2, 0, 7, 0)")
                .dueEach(0, "pairs(0, 3, 0, 0, -7)", "pairs(0, 4, 0, 0, 7)")
                .dueEach(NONE, "pairs(0, 0, 0, -9, 0)", "pairs(0, 0, 0, 9, 0)")
                .dueEach(NONE, "pairs(0, 0, 0, 0, -9)", "pairs(0, 0, 0, 0, 9)")
                .dueEach(NONE, "pairs(0, 0, 0, MIN, 0)", "pairs(0, 0, 0, MAX, 0)")
                .dueEach(NONE, "pairs(0, 0, 0, 0, MIN)", "pairs(0, 0, 0, 0, MAX)")
                .dueBest(0, 1, 1, 0, -8, 0).dueBest(0, 2, 1, 0, 8, 0)
                .dueBest(0, 3, 1, 0, 0, -8).dueBest(0, 4, 1, 0, 0, 8);
        // Nine off: no MOVE goes so far, so none AGREES till T is 1.
        Sentence.says("Term III", words)
                .due("within(0)", 1)
                .draw(0, 10, upTo(10)).draw(0, 10, upTo(1)).draw(0, 10, upTo(19))
                .draw(0, 1, upTo(10)).draw(0, 19, upTo(10))
                .dueBest(0, 1, 0, 0, 0, 0).dueBest(0, 2, 0, 0, 0, 0)
                .dueBest(0, 3, 0, 0, 0, 0).dueBest(0, 4, 0, 0, 0, 0)
                .due("within(1)", 0)
                .dueBest(0, 1, 1, 0, -8, 0).dueBest(0, 2, 1, 0, 8, 0)
                .dueBest(0, 3, 1, 0, 0, -8).dueBest(0, 4, 1, 0, 0, 8);
    }

    private static void beyondTheBoard() {
        Sentence.says("Term III", "(also beyond the board)")
                .due("within(3)", 1)
                .draw(22, 5, "##").draw(0, 5, "##").draw(10, 22, "#", "#").draw(10, 0, "#", "#")
                .dueEach(1, "pairs(0, 0, 0, 3, 0)", "pairs(1, 1, 0, -3, 0)")
                .dueEach(1, "pairs(2, 2, 0, 0, 3)", "pairs(3, 3, 0, 0, -3)")
                .dueEach(0, "pairs(0, 0, 0, 4, 0)", "pairs(1, 1, 0, -4, 0)")
                .dueEach(0, "pairs(2, 2, 0, 0, 4)", "pairs(3, 3, 0, 0, -4)")
                .dueEach(0, "pairs(0, 0, 0, 8, 0)", "pairs(1, 1, 0, -8, 0)")
                .dueEach(0, "pairs(2, 2, 0, 0, 8)", "pairs(3, 3, 0, 0, -8)");
    }

    /** PRINT d is a way of two CELLS: its END at 10, 10 has DIRECTION d, its other END lies elsewhere; T is 0. */
    private static Sentence allDirections(String words) {
        return Sentence.says("Term III", words)
                .due("within(0)", 1)
                .draw(10, 10, "##").draw(10, 10, "#.", ".#").draw(10, 10, "#", "#").draw(9, 10, ".#", "#.")
                .draw(9, 10, "##").draw(9, 9, "#.", ".#").draw(10, 9, "#", "#").draw(10, 9, ".#", "#.");
    }

    /** Both ENDS AGREE if they are just alike, the one at 10, 10 also if the DIRECTIONS are one apart. */
    private static int agreeing(int d, int e) {
        int apart = Math.min(Math.floorMod(d - e, 8), Math.floorMod(e - d, 8));
        return apart == 0 ? 2 : apart == 1 ? 1 : 0;
    }

    private static void restByEight() {
        Sentence book = allDirections("a DIRECTION d to d + 2 t (rest by 8)");
        // The shifts bring 10, 10 back from 13, 10, from 13, 13 and from 10, 13.
        int[] backX = {0, -3, -3, 0};
        int[] backY = {0, 0, -3, -3};
        for (int turn = 1; turn < 4; turn++) {
            for (int d = 0; d < 8; d++) {
                for (int e = 0; e < 8; e++) {
                    book.due(pairsCall(d, e, turn, backX[turn], backY[turn]), agreeing(d + 2 * turn, e));
                }
            }
        }
    }

    private static void reachAtFirst() {
        Sentence.says("Term III", "AGREE within T (0 .. 3; 1 at first)")
                .due("count(2)", 1)
                .draw(0, 5, upTo(5))
                .dueEach(1, "pairs(0, 0, 0, 1, 1)", "pairs(0, 0, 0, -1, -1)")
                .dueEach(0, "pairs(0, 0, 0, 2, 0)", "pairs(0, 0, 0, 0, -2)");
    }

    private static void differByReach() {
        Sentence book = Sentence.says("Term III", "their x and y differ by T at most each").draw(0, 9, upTo(9));
        for (int t = 0; t <= 3; t++) {
            book.due("within(" + t + ")", t == 0 ? 1 : t - 1);
            for (int way = -1; way <= 1; way += 2) {
                int just = way * t;
                int beyond = way * (t + 1);
                book.due(pairsCall(0, 0, 0, just, 0), 1).due(pairsCall(0, 0, 0, 0, just), 1);
                book.due(pairsCall(0, 0, 0, just, just), 1).due(pairsCall(0, 0, 0, just, -just), 1);
                book.due(pairsCall(0, 0, 0, beyond, 0), 0).due(pairsCall(0, 0, 0, 0, beyond), 0);
                book.due(pairsCall(0, 0, 0, beyond, just), 0).due(pairsCall(0, 0, 0, just, beyond), 0);
            }
        }
    }

    /** A PRINT whose one MARK is a FORK: its four ways leave over the edges; the one down may be left out. */
    private static Sentence drawCross(Sentence book, int x, int y, boolean goesDown) {
        String stem = ".".repeat(x) + "#";
        String[] rows = new String[24];
        for (int k = 0; k < 24; k++) {
            rows[k] = k == y ? upTo(23) : k < y && !goesDown ? "" : stem;
        }
        return book.draw(0, 0, rows);
    }

    private static void endsOrForks() {
        Sentence book = Sentence.says("Term III", "if both are ENDS, or FORKS").due("within(0)", 1);
        drawCross(book, 10, 10, true);
        book.draw(0, 10, upTo(10));
        drawCross(book, 10, 10, false);
        book.dueMarks(0, new int[] {10, 10, 8})
                .dueMarks(1, new int[] {10, 10, 4})
                .dueMarks(2, new int[] {10, 10, 8})
                .dueEach(1, "pairs(0, 0, 0, 0, 0)", "pairs(1, 1, 0, 0, 0)")
                .dueEach(0, "pairs(0, 1, 0, 0, 0)", "pairs(1, 0, 0, 0, 0)")
                .dueBest(0, 1, 0, 0, 0, 0)
                .dueBest(1, 0, 0, 0, 0, 0);
        // FORKS have no DIRECTION: those of three ways and of four AGREE, however they are turned.
        book.due("pairs(0, 2, 0, 0, 0)", 1)
                .due("pairs(2, 2, 1, -3, 0)", 1)
                .due("pairs(2, 2, 2, -3, -3)", 1)
                .due("pairs(2, 2, 3, 0, -3)", 1);
    }

    private static void directions() {
        Sentence book = allDirections("of ENDS DIRECTIONS by one at most, either way round");
        for (int d = 0; d < 8; d++) {
            for (int e = 0; e < 8; e++) {
                book.due(pairsCall(d, e, 0, 0, 0), agreeing(d, e));
            }
        }
    }

    private static void asManyAsCanBe() {
        String words = "as many pairs of MARKS of both that AGREE as can be";
        // Three that AGREE with two of the four each, and one that does with the first, or the last, of them alone.
        String columns = "...#.....#.....#";
        Sentence.says("Term III", words)
                .due("within(3)", 1)
                .draw(1, 0, columns, columns, "", "#", "#")
                .draw(1, 0, columns, columns, "", "..................#", "..................#")
                .draw(1, 0, "#.....#.....#.....#", "#.....#.....#.....#")
                .dueMarks(2, new int[] {1, 1, 6}, new int[] {7, 1, 6}, new int[] {13, 1, 6}, new int[] {19, 1, 6})
                .dueEach(4, "pairs(0, 2, 0, 0, 0)", "pairs(2, 0, 0, 0, 0)")
                .dueEach(4, "pairs(1, 2, 0, 0, 0)", "pairs(2, 1, 0, 0, 0)")
                .dueEach(4, "best(0, 2, 0)", "best(1, 2, 0)");
        // As many as there can be of MARKS, all near to others: turned twice the PRINT falls on itself.
        String five = ".##.##.....##.....##.##";
        Sentence forty = Sentence.says("Term III", words)
                .draw(0, 8, five, "", five, "", "", five, "", five)
                .due("mark(0, -1, 0)", 40);
        for (int t = 0; t <= 3; t++) {
            forty.due("within(" + t + ")", t == 0 ? 1 : t - 1);
            forty.dueEach(40, "pairs(0, 0, 0, 0, 0)", "pairs(0, 0, 2, 0, 0)").dueBest(0, 0, 40, 0, 0, 0);
        }
        // Four rows and four columns over the whole board meet in 16 FORKS; turned it falls on itself.
        String stems = "...#....#......#....#";
        String whole = upTo(23);
        Sentence.says("Term III", words)
                .draw(0, 0, stems, stems, stems, whole, stems, stems, stems, stems, whole, stems, stems, stems,
                        stems, stems, stems, whole, stems, stems, stems, stems, whole, stems, stems, stems)
                .due("mark(0, -1, 0)", 16).due("mark(0, -1, 2)", 16)
                .dueEach(16, "pairs(0, 0, 0, 0, 0)", "pairs(0, 0, 1, 0, 0)")
                .dueEach(16, "pairs(0, 0, 2, 0, 0)", "pairs(0, 0, 3, 0, 0)")
                .due("pairs(0, 0, 0, 5, 0)", 8)
                .due("pairs(0, 0, 0, 0, -7)", 4);
        // None AGREE, or there are none.
        Sentence.says("Term III", words)
                .draw(0, 5, upTo(5)).draw(0, 20, upTo(20)).due("print()", 2)
                .dueEach(0, "pairs(0, 1, 0, 0, 0)", "pairs(0, 2, 0, 0, 0)")
                .dueEach(0, "pairs(2, 0, 0, 0, 0)", "pairs(2, 2, 0, 0, 0)");
    }

    private static void noMarkInTwo() {
        String words = "no MARK in two";
        Sentence.says("Term III", words)
                .due("within(3)", 1)
                .draw(1, 0, "#.....#", "#.....#")
                .draw(4, 0, "#", "#")
                .dueEach(1, "pairs(0, 1, 0, 0, 0)", "pairs(1, 0, 0, 0, 0)")
                .dueEach(1, "best(0, 1, 0)", "best(1, 0, 0)");
        // Five against four, and five against three, though each of the five AGREES with one at least.
        String columns = "...#.....#.....#";
        Sentence.says("Term III", words)
                .due("within(3)", 1)
                .draw(1, 0, columns, columns, "", "#.#", "#.#")
                .draw(1, 0, "#.....#.....#.....#", "#.....#.....#.....#")
                .draw(1, 0, "#.....#.....#", "#.....#.....#")
                .dueEach(4, "pairs(0, 1, 0, 0, 0)", "pairs(1, 0, 0, 0, 0)")
                .dueEach(3, "pairs(0, 2, 0, 0, 0)", "pairs(2, 0, 0, 0, 0)");
        // Two AGREE with the same one alone, a third with it and two more, then with two others only.
        Sentence.says("Term III", words)
                .due("within(3)", 1)
                .draw(1, 0, "...#", "...#", "", "#.#", "#.#")
                .draw(1, 0, "#.....#", "#.....#", "", "......#", "......#")
                .dueEach(2, "pairs(0, 1, 0, 0, 0)", "pairs(1, 0, 0, 0, 0)")
                .draw(1, 0, "...#...........#", "...#...........#", "", "............#", "............#")
                .draw(1, 0, "#.....#.....#", "#.....#.....#")
                .dueEach(2, "pairs(2, 3, 0, 0, 0)", "pairs(3, 2, 0, 0, 0)");
        // The 40th MARK too: both ENDS of the other PRINT AGREE with it alone.
        String seven = ".##.##.##.##.##.##.##";
        Sentence.says("Term III", words)
                .draw(0, 1, seven, "", seven, "", ".##.##.##.##.##")
                .dueEach(0, "row(0, 9, 12582912)", "row(0, 15, 12582912)")
                .draw(22, 14, "##", "", "##")
                .due("mark(0, 39, 1)", 15)
                .dueEach(1, "pairs(0, 1, 0, 0, 0)", "pairs(1, 0, 0, 0, 0)");
    }

    private static void greatestCount() {
        // By 0, 0 one pair AGREES, by 4, 6 two do.
        Sentence.says("Term III", "BEST MOVE: the greatest COUNT")
                .due("within(0)", 1)
                .draw(0, 5, upTo(5), "", "", "", upTo(5))
                .draw(0, 5, upTo(5), "", "", "", "", "", upTo(9), "", "", "", upTo(9))
                .due("pairs(0, 1, 0, 0, 0)", 1)
                .dueBest(0, 1, 2, 0, 4, 6);
        // No pair by any MOVE: they are all alike, so the least of all is the BEST.
        Sentence.says("Term III", "SCORE of p against q: its COUNT")
                .draw(0, 5, upTo(5)).draw(0, 5, upTo(20)).due("print()", 2)
                .dueBest(0, 1, 0, 0, 0, 0).dueBest(0, 2, 0, 0, 0, 0)
                .dueBest(2, 0, 0, 0, 0, 0).dueBest(2, 2, 0, 0, 0, 0);
    }

    private static void leastShift() {
        String words = "of those alike the least |dx| + |dy|";
        // By 0, 3 and by -4, 0; then by 3, 0 and by -2, 2: the sum is asked for, not dx nor the greater of both.
        Sentence.says("Term III", words)
                .due("within(0)", 1)
                .draw(0, 5, upTo(5))
                .draw(0, 5, upTo(1), "", "", upTo(5)).dueBest(0, 1, 1, 0, 0, 3)
                .draw(0, 5, upTo(8), "", upTo(3)).dueBest(0, 2, 1, 0, 3, 0);
        // Turned twice it needs no shift: that is ahead of no turn, which needs 1, 1.
        Sentence book = Sentence.says("Term III", words);
        drawCross(book, 10, 10, true);
        drawCross(book, 12, 12, true).dueBest(0, 1, 1, 2, 0, 0);
    }

    private static void leastTurn() {
        String words = "then the least t";
        // By no turn and 2, 0 and by two turns and -2, 0.
        Sentence.says("Term III", words)
                .due("within(0)", 1)
                .draw(0, 5, upTo(5))
                .draw(0, 5, upTo(7)).due("row(1, 18, 16711680)", 0)
                .dueBest(0, 1, 1, 0, 2, 0);
        // All four turns do without a shift, then ever fewer of them.
        String right = "..................#";
        String left = ".....#";
        Sentence.says("Term III", words)
                .due("within(0)", 1)
                .draw(0, 5, upTo(5))
                .draw(0, 0, right, right, right, right, right, "######............#", "", "", "", "", "", "",
                        "", "", "", "", "", "", ".....#............######", left, left, left, left, left)
                .dueBest(0, 1, 1, 0, 0, 0)
                .due("row(1, 5, 262144)", 0).dueBest(0, 1, 1, 1, 0, 0)
                .dueEach(0, "row(1, 5, 0)", "row(1, 4, 0)").dueBest(0, 1, 1, 2, 0, 0)
                .due("row(1, 18, 32)", 0).dueBest(0, 1, 1, 3, 0, 0);
        // No turn at all, though two turns would bring the one just to the other.
        Sentence book = Sentence.says("Term III", words);
        drawCross(book, 11, 11, true);
        drawCross(book, 12, 12, true).dueBest(0, 1, 1, 0, 0, 0);
    }

    private static void leastDx() {
        String words = "then the least dx";
        // By -2, 0, by 0, 2 and by 0, -2: dx is asked for, not |dx|; then 0 comes ahead of 2.
        Sentence.says("Term III", words)
                .due("within(0)", 1)
                .draw(0, 5, upTo(5))
                .draw(0, 3, upTo(5), "", upTo(3), "", upTo(5)).dueBest(0, 1, 1, 0, -2, 0)
                .draw(0, 3, upTo(5), "", upTo(7)).dueBest(0, 2, 1, 0, 0, -2)
                .draw(0, 5, upTo(7), "", upTo(5)).dueBest(0, 3, 1, 0, 0, 2);
        // By -2, 0 and by 2, 0; by -1, 1 and by 1, -1.
        Sentence.says("Term III", words)
                .due("within(0)", 1)
                .draw(5, 0, column(6))
                .draw(3, 0, "#...#", "#...#", "#...#", "#...#", "#...#", "#...#").dueBest(0, 1, 1, 0, -2, 0)
                .draw(0, 5, upTo(5))
                .draw(0, 4, upTo(6), "", upTo(4)).dueBest(2, 3, 1, 0, -1, 1);
    }

    private static void leastDy() {
        Sentence.says("Term III", "then the least dy")
                .due("within(0)", 1)
                .draw(0, 5, upTo(5))
                .draw(0, 3, upTo(5), "", "", "", upTo(5)).dueBest(0, 1, 1, 0, 0, -2)
                .draw(0, 3, upTo(4), "", "", "", upTo(4)).dueBest(0, 2, 1, 0, -1, -2);
    }

    private static void outermostMoves() {
        Sentence.says("Term III", "A MOVE: a turn t 0 .. 3, then a shift dx, dy (-8 .. 8 each)")
                .due("within(0)", 1)
                .draw(0, 10, upTo(10))
                .draw(0, 2, upTo(2)).dueBest(0, 1, 1, 0, -8, -8)
                .draw(0, 2, upTo(18)).dueBest(0, 2, 1, 0, 8, -8)
                .draw(0, 18, upTo(2)).dueBest(0, 3, 1, 0, -8, 8)
                .draw(0, 18, upTo(18)).dueBest(0, 4, 1, 0, 8, 8)
                .draw(2, 5, column(19)).dueBest(0, 5, 1, 3, -8, -8)
                .draw(18, 21, column(3)).dueBest(0, 6, 1, 3, 8, 8);
    }

    private static void within() {
        Sentence.says("Promise 7", "T: what it was; -1.")
                .due("within(0)", 1).due("within(3)", 0).due("within(2)", 3).due("within(2)", 2)
                .dueEach(-1, "within(-1)", "within(4)", "within(MIN)", "within(MAX)")
                .due("status()", -1)
                .due("count(2)", 2)
                .due("within(1)", 2)
                .due("status()", 0)
                .due("count(2)", 1);
        // What AGREES follows T, also after a BEST MOVE was told.
        Sentence.says("Promise 7", "T: what it was")
                .draw(0, 5, upTo(5)).draw(0, 5, upTo(9))
                .dueBest(0, 1, 1, 0, 3, 0)
                .due("within(3)", 1).dueBest(0, 1, 1, 0, 1, 0).due("pairs(0, 1, 0, 1, 0)", 1)
                .due("within(4)", -1).dueBest(0, 1, 1, 0, 1, 0).due("pairs(0, 1, 0, 1, 0)", 1)
                .due("within(0)", 3).dueBest(0, 1, 1, 0, 4, 0).due("pairs(0, 1, 0, 1, 0)", 0);
    }

    private static void pairs() {
        Sentence.says("Promise 8", "COUNT of a MOVE of p against q. NONE.")
                .due("pairs(0, 0, 0, 0, 0)", NONE)
                .draw(0, 5, upTo(5)).draw(0, 6, upTo(8))
                .due("pairs(0, 0, 0, 0, 0)", 1)
                .due("pairs(0, 1, 0, 3, 1)", 1).due("pairs(1, 0, 0, -3, -1)", 1).due("pairs(1, 0, 0, 3, 1)", 0)
                .dueEach(NONE, "pairs(2, 0, 0, 0, 0)", "pairs(0, 2, 0, 0, 0)", "pairs(2, 2, 0, 0, 0)")
                .dueEach(NONE, "pairs(-1, 0, 0, 0, 0)", "pairs(0, -1, 0, 0, 0)", "pairs(16, 0, 0, 0, 0)")
                .dueEach(NONE, "pairs(0, 16, 0, 0, 0)", "pairs(MIN, 0, 0, 0, 0)", "pairs(0, MAX, 0, 0, 0)")
                .dueEach(NONE, "pairs(0, 0, 4, 0, 0)", "pairs(0, 0, -1, 0, 0)", "pairs(0, 0, 0, 9, -9)");
    }

    private static void best() {
        Sentence.says("Promise 9", "NOTHING (-100) without.")
                .dueEach(NOTHING, "best(0, 0, 0)", "best(0, 0, 1)", "best(0, 0, 2)", "best(0, 0, 3)")
                .draw(0, 5, upTo(5)).draw(0, 5, upTo(4))
                .dueBest(0, 0, 1, 0, 0, 0)
                .dueEach(NOTHING, "best(0, 1, -1)", "best(0, 1, 4)", "best(0, 1, MIN)", "best(0, 1, MAX)")
                .dueEach(NOTHING, "best(2, 0, 0)", "best(0, 2, 1)", "best(2, 2, 2)", "best(-1, 0, 3)")
                .dueEach(NOTHING, "best(0, -1, 0)", "best(16, 0, 1)", "best(0, 16, 2)", "best(MIN, MAX, 3)");
        // -1 may be told of a shift.
        Sentence.says("Promise 9", "SCORE (what 0), turn (1), dx (2), dy (3)")
                .due("within(0)", 1)
                .draw(0, 5, upTo(5)).draw(0, 4, upTo(4))
                .dueBest(0, 1, 1, 0, -1, -1).dueBest(1, 0, 1, 0, 1, 1);
        // It follows what is told and JOINED later.
        Sentence.says("Promise 9", "BEST MOVE of p against q")
                .due("within(0)", 1)
                .draw(0, 5, upTo(5)).draw(0, 5, upTo(8))
                .dueBest(0, 1, 1, 0, 3, 0)
                .due("row(0, 5, 15)", 0).dueBest(0, 1, 1, 0, 5, 0)
                .due("row(1, 5, 31)", 0).dueBest(0, 1, 1, 0, 1, 0)
                .due("row(1, 5, 0)", 0).dueBest(0, 1, 0, 0, 0, 0)
                .due("join(0, 1)", 4).dueBest(0, 1, 1, 0, 0, 0);
    }
}
