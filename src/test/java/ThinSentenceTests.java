/** The boundary cases that the document names of THINNED and of MARKS: term II, promises 5 and 6. */
public final class ThinSentenceTests {
    private static final int NONE = RidgeBooks.NONE;

    public static void main(String[] args) {
        againAndAgain();
        allAtOnce();
        howManyFull();
        justOneChange();
        firstPass();
        secondPass();
        thin();
        marksAsThinned();
        marksNotAtAnEdge();
        marksRowByRow();
        marksTheFirstForty();
        endHasJustOne();
        forkHasThreeOrMore();
        numbersOfTheEight();
        mark();
        Sentence.end();
    }

    private static void againAndAgain() {
        String words = "again and again, till neither takes any away, two passes";
        // Each round takes the lowest, the highest and both outer columns; it ends with one CELL.
        Sentence full = Sentence.says("Term II", words).due("print()", 0);
        for (int y = 0; y < 24; y++) {
            full.due("row(0, " + y + ", 16777215)", 0);
        }
        full.dueThinned(0, 11, 12, "#").due("count(1)", 576);
        // First pass: none, since all but the upper middle have two changes; that one goes in the second.
        Sentence.says("Term II", words)
                .draw(8, 8, "..#..", "#.#.#", ".###.", ".###.", "#...#")
                .dueThinned(0, 8, 8, "..#..", "#.#.#", ".###.", ".#.#.", "#...#");
        // The second pass takes none in the first round, and yet there is one to take in the next round.
        Sentence.says("Term II", words)
                .draw(8, 8, "#.#.#", ".###.", ".###.", ".#.#.", "..#..")
                .dueThinned(0, 8, 8, "#...#", ".#.#.", ".###.", ".#.#.", "..#..");
        // The first round takes CELLS of column 0 alone, and the second round one more.
        Sentence.says("Term II", words)
                .draw(0, 5, ".###", "##..", "#...")
                .dueThinned(0, 0, 5, ".###");
        // What neither takes any from stays as it is told.
        Sentence.says("Term II", words)
                .draw(8, 8, "#...#", ".#.#.", ".###.", ".#.#.", "..#..")
                .dueThinned(0, 8, 8, "#...#", ".#.#.", ".###.", ".#.#.", "..#..")
                .due("print()", 1)
                .dueThinned(1, 0, 0);
    }

    private static void allAtOnce() {
        // One by one, the last of the four would stay.
        Sentence.says("Term II", "a pass takes away, all at once, those full CELLS")
                .draw(5, 5, "##", "##")
                .dueThinned(0, 5, 5, "..", "..");
    }

    private static void howManyFull() {
        String words = "of which 2 .. 6 of the eight are full";
        // None or one full beside: they stay.
        Sentence.says("Term II", words)
                .draw(5, 5, "#").dueThinned(0, 5, 5, "#")
                .draw(5, 5, "##").dueThinned(1, 5, 5, "##")
                .draw(5, 5, "#.", ".#").dueThinned(2, 5, 5, "#.", ".#");
        // The outer two have just two full beside, next to each other.
        Sentence.says("Term II", words).draw(5, 5, "##", ".#").dueThinned(0, 5, 5, ".#", "..");
        // Six are full beside the middle one: it goes with the others of the first pass.
        Sentence.says("Term II", words).draw(9, 9, "###", "##.", "##.").dueThinned(0, 9, 9, ".#.", "#..", "...");
        // Seven: it stays, and the others go in both passes.
        Sentence.says("Term II", words).draw(9, 9, "###", "##.", "###").dueThinned(0, 9, 9, "...", ".#.", "...");
    }

    private static void justOneChange() {
        String words = "just one change from empty to full as one goes once round from 0 to 7 and back to 0";
        // The change of the lower left one is that from 7 back to 0.
        Sentence.says("Term II", words).draw(5, 5, "##", ".#").dueThinned(0, 5, 5, ".#", "..");
        // Two changes: ways one CELL wide stay, whichever way they go and bend.
        Sentence.says("Term II", words)
                .draw(3, 5, "######").dueThinned(0, 3, 5, "######")
                .draw(3, 5, "#", "#", "#", "#").dueThinned(1, 3, 5, "#", "#", "#", "#")
                .draw(3, 5, "#..", ".#.", "..#").dueThinned(2, 3, 5, "#..", ".#.", "..#")
                .draw(3, 5, "###", "#..", "#..").dueThinned(3, 3, 5, "###", "#..", "#..")
                .draw(3, 5, ".#.", "#.#", ".#.").dueThinned(4, 3, 5, ".#.", "#.#", ".#.");
    }

    private static void firstPass() {
        // The left column has up, right and down full; the right one does not and goes.
        Sentence.says("Term II", "first pass: up, right, down")
                .draw(10, 5, "##", "##", "##", "##", "##")
                .dueThinned(0, 10, 5, "..", "#.", "#.", "#.", "..");
        // The upper row has right, down and left full; the lower one does not and goes.
        Sentence.says("Term II", "nor right, down, left")
                .draw(5, 10, "######", "######")
                .dueThinned(0, 5, 10, "......", ".####.");
    }

    private static void secondPass() {
        // The first pass takes the lower row; now the middle one has up, right and left full, the upper not.
        Sentence.says("Term II", "second pass: up, right, left")
                .draw(5, 10, "########", "########", "########")
                .dueThinned(0, 5, 10, "........", ".#####..", "........");
        // The first pass takes the right column; now the middle one has up, down and left full, the left not.
        Sentence.says("Term II", "nor up, down, left")
                .draw(10, 5, "###", "###", "###", "###", "###", "###", "###", "###")
                .dueThinned(0, 10, 5, "...", "...", ".#.", ".#.", ".#.", ".#.", ".#.", "...");
    }

    private static void thin() {
        Sentence.says("Promise 5", "Row y of a PRINT as THINNED; 0 without.")
                .due("print()", 0)
                .dueEach(0, "row(0, 0, -1)", "row(0, 23, -1)")
                .dueEach(16777215, "thin(0, 0)", "thin(0, 23)")
                .dueEach(0, "thin(0, -1)", "thin(0, 24)", "thin(0, MIN)", "thin(0, MAX)", "thin(0, 12)")
                .dueEach(0, "thin(1, 0)", "thin(-1, 0)", "thin(16, 0)", "thin(MIN, 0)", "thin(MAX, 23)", "thin(1, 24)")
                .due("row(0, 1, -1)", 0)
                .due("thin(0, 0)", 0)
                .due("thin(0, 1)", 0b011111111111111111111110)
                .due("row(0, 1, 0)", 0)
                .due("thin(0, 0)", 16777215);
    }

    private static int[] m(int x, int y, int direction) {
        return new int[] {x, y, direction};
    }

    private static void marksAsThinned() {
        Sentence.says("Term II", "MARKS of a PRINT, of its CELLS as THINNED")
                .draw(5, 10, "########", "########", "########").dueMarks(0, m(6, 11, 0), m(10, 11, 4))
                .draw(5, 10, "##", "##").dueMarks(1)
                .due("print()", 2).dueMarks(2);
    }

    private static void marksNotAtAnEdge() {
        String words = "not at an edge (x, y 1 .. 22)";
        // Each way of two CELLS has its outer END at an edge, its inner one beside it.
        Sentence.says("Term II", words)
                .draw(0, 5, "##....................##")
                .dueEach(0, "row(0, 0, 1024)", "row(0, 1, 1024)", "row(0, 22, 1024)", "row(0, 23, 1024)")
                .dueMarks(0, m(10, 1, 6), m(1, 5, 4), m(22, 5, 0), m(10, 22, 2));
        Sentence.says("Term II", words)
                .draw(0, 0, "#......................#", ".#....................#.")
                .dueEach(0, "row(0, 22, 4194306)", "row(0, 23, 8388609)")
                .dueMarks(0, m(1, 1, 5), m(22, 1, 7), m(1, 22, 3), m(22, 22, 1));
        // A FORK at each edge, and then one step off it.
        String whole = "########################";
        String[] stem = {"..........#", "..........#", "..........#"};
        Sentence.says("Term II", words)
                .draw(0, 0, whole, stem[0], stem[1], stem[2]).dueMarks(0, m(10, 3, 6))
                .draw(0, 1, whole, stem[0], stem[1], stem[2]).dueMarks(1, m(10, 1, 8), m(10, 4, 6))
                .draw(0, 20, stem[0], stem[1], stem[2], whole).dueMarks(2, m(10, 20, 2))
                .draw(0, 19, stem[0], stem[1], stem[2], whole).dueMarks(3, m(10, 19, 2), m(10, 22, 8));
        dueForkBesideColumn(Sentence.says("Term II", words), 0, 0b1111, 3, 4);
        dueForkBesideColumn(Sentence.says("Term II", words), 23, 0b1111 << 20, 20, 0);
    }

    /** A column over the whole board and a stem from it, one END of which lies at stemEnd: no FORK at the edge. */
    private static void dueForkBesideColumn(Sentence book, int column, int stem, int stemEnd, int direction) {
        int inward = column == 0 ? 1 : -1;
        int innerStem = column == 0 ? stem << 1 : stem >> 1;
        book.due("print()", 0).due("print()", 1);
        for (int y = 0; y < 24; y++) {
            book.due("row(0, " + y + ", " + (y == 10 ? stem : 1 << column) + ")", 0);
            book.due("row(1, " + y + ", " + (y == 10 ? innerStem : 1 << (column + inward)) + ")", 0);
        }
        book.dueMarks(0, m(stemEnd, 10, direction));
        int[] fork = m(column + inward, 10, 8);
        int[] end = m(stemEnd + inward, 10, direction);
        book.dueMarks(1, column == 0 ? fork : end, column == 0 ? end : fork);
    }

    private static void marksRowByRow() {
        Sentence.says("Term II", "row by row, x upwards")
                .draw(3, 3, "#.....#", "#.....#", "", "...##", "", "##...##")
                .dueMarks(0, m(3, 3, 2), m(9, 3, 2), m(3, 4, 6), m(9, 4, 6), m(6, 6, 0), m(7, 6, 4),
                        m(3, 8, 0), m(4, 8, 4), m(8, 8, 0), m(9, 8, 4));
    }

    /** Rows 1, 3 and 5 have 38 ENDS; each way over the right edge has one more. */
    private static Sentence thirtyEight(String words) {
        String seven = ".##.##.##.##.##.##.##";
        return Sentence.says("Term II", words).draw(0, 1, seven, "", seven, "", ".##.##.##.##.##");
    }

    private static void dueMark(Sentence book, int i, int x, int y, int direction) {
        book.due("mark(0, " + i + ", 0)", x).due("mark(0, " + i + ", 1)", y).due("mark(0, " + i + ", 2)", direction);
    }

    private static void marksTheFirstForty() {
        int overEdge = 0b11 << 22;
        Sentence book = thirtyEight("the first 40").due("mark(0, -1, 0)", 38);
        book.due("row(0, 7, " + overEdge + ")", 0).due("mark(0, -1, 0)", 39);
        dueMark(book, 38, 22, 7, 0);
        book.dueEach(NONE, "mark(0, 39, 0)", "mark(0, 39, 1)", "mark(0, 39, 2)");
        book.due("row(0, 9, " + overEdge + ")", 0).due("mark(0, -1, 0)", 40);
        dueMark(book, 39, 22, 9, 0);
        book.dueEach(NONE, "mark(0, 40, 0)", "mark(0, 40, 1)", "mark(0, 40, 2)");
        book.due("row(0, 11, " + overEdge + ")", 0).due("mark(0, -1, 0)", 40).due("mark(0, -1, 1)", 40);
        dueMark(book, 39, 22, 9, 0);
        book.dueEach(NONE, "mark(0, 40, 0)", "mark(0, 40, 1)", "mark(0, 40, 2)");
        // The 41st END AGREES with none, as it is no MARK; the 40th, two below it, does.
        book.draw(22, 11, "##").dueMarks(1, m(22, 11, 0)).due("pairs(1, 0, 0, 0, 0)", 0);
        book.due("pairs(0, 1, 0, 0, 0)", 0).due("pairs(1, 0, 0, 0, -2)", 1).due("pairs(0, 1, 0, 0, 2)", 1);
        // One more ahead of them all, and the last of them is no MARK any more.
        int ahead = 0b11 << 22 | 0b110110110110110110110;
        book.due("row(0, 1, " + ahead + ")", 0).due("mark(0, -1, 0)", 40);
        dueMark(book, 14, 22, 1, 0);
        dueMark(book, 39, 22, 7, 0);
        // A FORK behind the 40th is no MARK, nor is it counted; the 40th may be one.
        Sentence forks = thirtyEight("the first 40").due("row(0, 7, " + overEdge + ")", 0);
        forks.dueEach(0, "row(0, 11, 1024)", "row(0, 12, 1024)", "row(0, 13, 16777215)");
        forks.due("mark(0, -1, 0)", 40).due("mark(0, -1, 1)", 40).due("mark(0, -1, 2)", 0);
        dueMark(forks, 39, 10, 11, 2);
        forks.due("row(0, 7, 0)", 0).due("mark(0, -1, 0)", 40).due("mark(0, -1, 1)", 39).due("mark(0, -1, 2)", 1);
        dueMark(forks, 39, 10, 13, 8);
    }

    private static void endHasJustOne() {
        Sentence.says("Term II", "an END has just one of the eight full (its DIRECTION is that one's number)")
                .draw(5, 5, "#").dueMarks(0)
                .draw(5, 5, "##").dueMarks(1, m(5, 5, 0), m(6, 5, 4))
                .draw(5, 5, "###").dueMarks(2, m(5, 5, 0), m(7, 5, 4))
                .draw(5, 5, ".#.", "#.#", ".#.").dueMarks(3);
    }

    private static void forkHasThreeOrMore() {
        String words = "a FORK has three changes from empty to full or more, going round as above";
        // Three changes; but for the third of these, one of them is that from 7 back to 0.
        Sentence.says("Term II", words)
                .draw(8, 8, "#####", "..#..", "..#..").dueMarks(0, m(8, 8, 0), m(10, 8, 8), m(12, 8, 4), m(10, 10, 6))
                .draw(8, 8, "..#", "..#", "#####").dueMarks(1, m(10, 8, 2), m(8, 10, 0), m(10, 10, 8), m(12, 10, 4))
                .draw(8, 8, "..#", "..#", "###", "..#", "..#")
                .dueMarks(2, m(10, 8, 2), m(8, 10, 0), m(10, 10, 8), m(10, 12, 6))
                .draw(8, 8, "#..", "#..", "###", "#..", "#..")
                .dueMarks(3, m(8, 8, 2), m(8, 10, 8), m(10, 10, 4), m(8, 12, 6));
        // Four changes, straight and aslant.
        Sentence.says("Term II", words)
                .draw(8, 8, "..#", "..#", "#####", "..#", "..#")
                .dueMarks(0, m(10, 8, 2), m(8, 10, 0), m(10, 10, 8), m(12, 10, 4), m(10, 12, 6))
                .draw(8, 8, "#...#", ".#.#.", "..#..", ".#.#.", "#...#")
                .dueMarks(1, m(8, 8, 1), m(12, 8, 3), m(10, 10, 8), m(8, 12, 7), m(12, 12, 5));
        // Two changes: a bend is no FORK.
        Sentence.says("Term II", words).draw(8, 8, "###", "#..", "#..").dueMarks(0, m(10, 8, 4), m(8, 10, 6));
    }

    private static void numbersOfTheEight() {
        String words = "0 right (x + 1), 1 right and up (y + 1), 2 up, and so on round to 7 right and down";
        Sentence.says("Term I", words)
                .draw(5, 5, "##").dueMarks(0, m(5, 5, 0), m(6, 5, 4))
                .draw(5, 5, "#.", ".#").dueMarks(1, m(5, 5, 1), m(6, 6, 5))
                .draw(5, 5, "#", "#").dueMarks(2, m(5, 5, 2), m(5, 6, 6))
                .draw(5, 5, ".#", "#.").dueMarks(3, m(6, 5, 3), m(5, 6, 7));
    }

    private static void mark() {
        Sentence.says("Promise 6", "how many (i -1, what 0), ENDS (1), FORKS (2). NONE.")
                .due("print()", 0)
                .dueEach(0, "mark(0, -1, 0)", "mark(0, -1, 1)", "mark(0, -1, 2)")
                .dueEach(NONE, "mark(0, 0, 0)", "mark(0, 0, 1)", "mark(0, 0, 2)", "mark(0, -1, 3)", "mark(0, -1, -1)")
                .draw(8, 8, "..#", "..#", "#####", "..#", "..#")
                .due("mark(1, -1, 0)", 5).due("mark(1, -1, 1)", 4).due("mark(1, -1, 2)", 1)
                .dueEach(NONE, "mark(1, -2, 0)", "mark(1, MIN, 0)", "mark(1, 5, 0)", "mark(1, MAX, 2)")
                .dueEach(NONE, "mark(1, 0, -1)", "mark(1, 0, 3)", "mark(1, -1, -1)", "mark(1, -1, 3)")
                .dueEach(NONE, "mark(2, -1, 0)", "mark(2, 0, 0)", "mark(-1, -1, 0)", "mark(16, 0, 0)")
                .dueEach(NONE, "mark(1, 40, 1)", "mark(1, 0, MIN)", "mark(1, 0, MAX)", "mark(-1, 0, 0)");
        Sentence.says("Promise 6", "2 DIRECTION of an END (8 a FORK)")
                .draw(8, 8, "..#", "..#", "#####", "..#", "..#")
                .due("mark(0, 1, 2)", 0).due("mark(0, 2, 2)", 8).due("mark(0, 3, 2)", 4);
    }
}
