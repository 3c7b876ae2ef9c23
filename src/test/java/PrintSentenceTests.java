/** The boundary cases that the document names of PRINTS and their CELLS: term I, promises 1 to 4, 14 and 15. */
public final class PrintSentenceTests {
    private static final int NONE = RidgeBooks.NONE;
    private static final int NOTHING = -100;

    public static void main(String[] args) {
        callsOfAnObject();
        newObject();
        printNumbers();
        boardSides();
        emptyAtFirst();
        beyondTheBoard();
        orderOfRefusals();
        print();
        row();
        cell();
        count();
        status();
        Sentence.end();
    }

    private static void callsOfAnObject() {
        Sentence book = Sentence.says("What it is", "An object is used for at most 512 calls after it has been made");
        fillAll(book);
        for (int k = 0; book.callsMade() < 510; k++) {
            book.due("within(" + k % 4 + ")", k == 0 ? 1 : (k + 3) % 4);
        }
        book.due("thin(15, 12)", 1 << 11).due("count(1)", 16 * 576);
    }

    /** All 16 PRINTS with all their CELLS full: 400 calls. */
    private static void fillAll(Sentence book) {
        for (int print = 0; print < 16; print++) {
            book.due("print()", print);
            for (int y = 0; y < 24; y++) {
                book.due("row(" + print + ", " + y + ", 16777215)", 0);
            }
        }
    }

    private static void newObject() {
        dueNoSuchPrint(Sentence.says("Promise 1", "No PRINTS."), "0", "1")
                .due("count(0)", 0)
                .due("count(1)", 0);
        Sentence.says("Promise 1", "No PRINTS.")
                .due("status()", 0)
                .due("count(0)", 0)
                .due("print()", 0);
    }

    /** What every call answers of a PRINT that there is not, whatever the other one is. */
    private static Sentence dueNoSuchPrint(Sentence book, String missing, String other) {
        String m = missing;
        String o = other;
        return book.dueEach(-2, "row(" + m + ", 0, 1)", "row(" + m + ", 23, 1)")
                .dueEach(-2, "join(" + m + ", " + o + ")", "join(" + o + ", " + m + ")")
                .dueEach(NONE, "cell(" + m + ", 0, 0, 0)", "cell(" + m + ", 0, 0, 1)")
                .dueEach(0, "thin(" + m + ", 0)", "thin(" + m + ", 23)")
                .dueEach(NONE, "mark(" + m + ", -1, 0)", "mark(" + m + ", -1, 1)", "mark(" + m + ", -1, 2)")
                .dueEach(NONE, "mark(" + m + ", 0, 0)", "mark(" + m + ", 0, 1)", "mark(" + m + ", 0, 2)")
                .dueEach(NONE, "pairs(" + m + ", " + o + ", 0, 0, 0)", "pairs(" + o + ", " + m + ", 0, 0, 0)")
                .dueEach(NONE, "pairs(" + m + ", " + m + ", 0, 0, 0)")
                .dueEach(NOTHING, "best(" + m + ", " + o + ", 0)", "best(" + o + ", " + m + ", 0)")
                .dueEach(NOTHING, "best(" + m + ", " + m + ", 1)", "best(" + m + ", " + o + ", 2)")
                .dueEach(NOTHING, "best(" + o + ", " + m + ", 3)")
                .dueEach(NONE, "bound(" + m + ", " + o + ")", "bound(" + o + ", " + m + ")")
                .dueEach(NONE, "bound(" + m + ", " + m + ")")
                .dueEach(NONE, "seek(" + m + ", 0)", "seek(" + m + ", 1)", "seek(" + m + ", 2)");
    }

    private static void printNumbers() {
        Sentence all = Sentence.says("Term I", "PRINTS 0 .. 15 (16 at most)");
        for (int print = 0; print < 16; print++) {
            all.draw(0, 5, "######");
        }
        all.dueEach(1, "cell(15, 5, 5, 0)", "cell(15, 5, 5, 1)", "mark(15, -1, 0)", "pairs(15, 0, 0, 0, 0)")
                .dueEach(1, "pairs(0, 15, 0, 0, 0)", "best(15, 0, 0)", "best(0, 15, 0)", "bound(15, 15)")
                .due("thin(15, 5)", 0b111111)
                .dueSeek(15, 0, 1, 1)
                .due("row(15, 9, 1)", 0)
                .due("join(15, 0)", 1)
                .due("join(0, 15)", 0);
        dueNoSuchPrint(all, "16", "15");
        dueNoSuchPrint(all, "-1", "0");
        all.due("count(0)", 16).due("count(1)", 98);
        // Of fewer PRINTS the next number is the first that is none.
        Sentence two = Sentence.says("Term I", "-2 there is no such PRINT").draw(0, 5, "######").draw(0, 5, "######");
        dueNoSuchPrint(two, "2", "1");
        dueNoSuchPrint(two, "15", "1");
        dueNoSuchPrint(two, "MIN", "0");
        dueNoSuchPrint(two, "MAX", "0");
        two.due("count(0)", 2).due("count(1)", 12);
    }

    private static void boardSides() {
        Sentence.says("Term I", "boards of 24 times 24 CELLS, x, y 0 .. 23")
                .due("print()", 0)
                .dueEach(0, "row(0, 0, 16777215)", "row(0, 23, 16777215)")
                .dueEach(1, "cell(0, 0, 0, 0)", "cell(0, 23, 0, 0)", "cell(0, 0, 23, 0)", "cell(0, 23, 23, 0)")
                .dueEach(1, "cell(0, 0, 0, 1)", "cell(0, 23, 0, 1)", "cell(0, 0, 23, 1)", "cell(0, 23, 23, 1)")
                .dueEach(NONE, "cell(0, -1, 0, 0)", "cell(0, 24, 0, 0)", "cell(0, 0, -1, 0)", "cell(0, 0, 24, 0)")
                .dueEach(NONE, "cell(0, -1, 0, 1)", "cell(0, 24, 0, 1)", "cell(0, 0, -1, 1)", "cell(0, 0, 24, 1)")
                .dueEach(16777215, "thin(0, 0)", "thin(0, 23)")
                .dueEach(0, "thin(0, -1)", "thin(0, 24)")
                .dueEach(-1, "row(0, -1, 1)", "row(0, 24, 1)")
                .due("count(1)", 48);
        Sentence.says("Term I", "(bit x of row y)")
                .due("print()", 0)
                .dueEach(0, "row(0, 7, 1)", "row(0, 9, 8388608)")
                .dueEach(1, "cell(0, 0, 7, 0)", "cell(0, 23, 9, 0)")
                .dueEach(0, "cell(0, 23, 7, 0)", "cell(0, 7, 0, 0)", "cell(0, 0, 9, 0)", "cell(0, 9, 23, 0)");
    }

    private static void emptyAtFirst() {
        Sentence book = Sentence.says("Term I", "all empty at first").due("print()", 0);
        for (int y = 0; y < 24; y++) {
            book.due("row(0, " + y + ", 16777215)", 0);
        }
        book.due("print()", 1).due("count(1)", 576);
        for (int at = 0; at < 24; at++) {
            book.due("cell(1, " + at + ", " + at + ", 0)", 0).due("cell(1, " + at + ", 23, 1)", 0);
        }
        book.dueThinned(1, 0, 0).dueMarks(1);
    }

    private static void beyondTheBoard() {
        String words = "beyond the board all are empty";
        // A square of four goes at once; with a CELL beyond the edge that counted as full it would not.
        Sentence.says("Term I", words).draw(0, 0, "##....................##", "##....................##")
                .dueEach(0, "row(0, 22, 12582915)", "row(0, 23, 12582915)")
                .dueThinned(0, 0, 0)
                .due("count(1)", 16);
        // Two rows or columns lose the lower or the right one, at each edge as anywhere.
        Sentence.says("Term I", words)
                .draw(4, 0, "######", "######").dueThinned(0, 4, 0, "......", ".####.")
                .draw(4, 22, "######", "######").dueThinned(1, 4, 22, "......", ".####.")
                .draw(0, 4, "##", "##", "##", "##", "##").dueThinned(2, 0, 4, "..", "#.", "#.", "#.", "..")
                .draw(22, 4, "##", "##", "##", "##", "##").dueThinned(3, 22, 4, "..", "#.", "#.", "#.", "..");
        // The other side of the board is not beside: a square at each of two sides goes as if alone.
        Sentence.says("Term I", words)
                .draw(0, 5, "##....................##", "##....................##").dueThinned(0, 0, 0)
                .draw(5, 0, "##", "##").dueEach(0, "row(1, 22, 96)", "row(1, 23, 96)").dueThinned(1, 0, 0);
    }

    private static void orderOfRefusals() {
        Sentence.says("Term I", "The first of these in that order.")
                .dueEach(-1, "row(0, 24, 1)", "row(-1, -1, 1)", "row(16, 24, 1)", "row(MAX, MIN, 1)")
                .dueEach(-1, "join(0, 0)", "join(-1, -1)", "join(16, 16)", "join(MIN, MIN)")
                .due("status()", -1)
                .due("print()", 0)
                .dueEach(-1, "row(1, 24, 1)", "join(1, 1)")
                .dueEach(-2, "row(1, 23, 1)", "join(1, 0)");
    }

    private static void print() {
        Sentence numbers = Sentence.says("Promise 2", "An empty PRINT: its number.");
        for (int print = 0; print < 16; print++) {
            numbers.due("print()", print)
                    .due("count(0)", print + 1)
                    .due("count(1)", print)
                    .due("mark(" + print + ", -1, 0)", 0)
                    .due("row(" + print + ", 0, 1)", 0);
        }
        Sentence full = Sentence.says("Promise 2", "An empty PRINT: its number. -5.");
        for (int print = 0; print < 16; print++) {
            full.draw(0, 5, "######");
        }
        full.due("status()", 0)
                .due("print()", -5)
                .due("status()", -5)
                .due("print()", -5)
                .due("count(0)", 16)
                .due("count(1)", 96)
                .due("thin(0, 5)", 0b111111)
                .due("thin(15, 5)", 0b111111)
                .due("row(15, 0, 0)", 0)
                .due("status()", 0);
    }

    private static void row() {
        Sentence.says("Promise 3", "(bits beyond 23 are not looked at)")
                .due("print()", 0)
                .due("row(0, 3, -16777216)", 0).due("count(1)", 0).due("thin(0, 3)", 0)
                .due("row(0, 3, MIN)", 0).due("count(1)", 0).due("thin(0, 3)", 0)
                .due("row(0, 3, 16777216)", 0).due("count(1)", 0).due("cell(0, 0, 3, 0)", 0)
                .due("row(0, 3, -1)", 0).due("count(1)", 24).due("thin(0, 3)", 16777215)
                .due("row(0, 3, 8388608)", 0).due("count(1)", 1).due("thin(0, 3)", 8388608);
        Sentence.says("Promise 3", "Row y of a PRINT")
                .draw(3, 5, "######")
                .draw(3, 5, "######")
                .dueMarks(0, new int[] {3, 5, 0}, new int[] {8, 5, 4})
                .due("row(0, 5, 96)", 0)
                .dueMarks(0, new int[] {5, 5, 0}, new int[] {6, 5, 4})
                .due("row(0, 5, 0)", 0)
                .dueMarks(0)
                .dueMarks(1, new int[] {3, 5, 0}, new int[] {8, 5, 4})
                .due("count(1)", 6);
        Sentence.says("Promise 3", "-1 y; -2.")
                .draw(0, 0, "######").due("row(0, 23, 63)", 0)
                .dueEach(-1, "row(0, -1, 0)", "row(0, 24, 0)", "row(0, MIN, 0)", "row(0, MAX, 0)")
                .due("status()", -1)
                .dueEach(-2, "row(1, 0, 0)", "row(-1, 0, 0)", "row(16, 0, 0)", "row(MIN, 0, 0)", "row(MAX, 0, 0)")
                .due("status()", -2)
                .dueEach(63, "thin(0, 0)", "thin(0, 23)")
                .due("count(0)", 1)
                .due("count(1)", 12);
    }

    private static void cell() {
        Sentence.says("Promise 4", "as told (what 0), as THINNED (1): 1 full, 0; NONE.")
                .draw(4, 6, "##", "##").due("row(0, 9, 16)", 0)
                .dueEach(1, "cell(0, 4, 6, 0)", "cell(0, 5, 7, 0)", "cell(0, 4, 9, 0)", "cell(0, 4, 9, 1)")
                .dueEach(0, "cell(0, 4, 6, 1)", "cell(0, 5, 7, 1)", "cell(0, 6, 6, 0)", "cell(0, 9, 4, 0)")
                .dueEach(NONE, "cell(0, 4, 6, -1)", "cell(0, 4, 6, 2)", "cell(0, 4, 6, MIN)", "cell(0, 4, 6, MAX)")
                .dueEach(NONE, "cell(0, MIN, 6, 0)", "cell(0, MAX, 6, 1)", "cell(0, 4, MIN, 1)", "cell(0, 4, MAX, 0)")
                .dueEach(NONE, "cell(1, 4, 6, 0)", "cell(1, 4, 6, 1)", "cell(-1, 4, 6, 0)", "cell(MAX, 4, 6, 1)");
        // The THINNED ones follow what is told later.
        Sentence.says("Promise 4", "as THINNED (1)")
                .draw(4, 6, "##", "##")
                .due("cell(0, 4, 6, 1)", 0)
                .due("row(0, 7, 0)", 0)
                .due("cell(0, 4, 6, 1)", 1);
    }

    private static void count() {
        Sentence book = Sentence.says("Promise 14", "0 PRINTS, 1 full CELLS of all as told, 2 T.");
        book.due("count(0)", 0).due("count(1)", 0).due("count(2)", 1);
        fillAll(book);
        book.due("count(0)", 16).due("count(1)", 9216).due("within(3)", 1).due("count(2)", 3)
                .due("within(0)", 3).due("count(2)", 0);
        Sentence.says("Promise 14", "NONE for others.")
                .dueEach(NONE, "count(-1)", "count(3)", "count(MIN)", "count(MAX)")
                .due("print()", 0)
                .dueEach(NONE, "count(-1)", "count(3)", "count(4)", "count(MIN)", "count(MAX)");
    }

    private static void status() {
        Sentence.says("Promise 15", "0 if it was not, or ahead of any.")
                .due("status()", 0)
                .dueEach(NONE, "cell(0, 0, 0, 0)", "mark(0, 0, 0)", "pairs(0, 0, 0, 0, 0)", "bound(0, 0)")
                .dueEach(NONE, "seek(0, 0)", "chance(13, 0, 0)", "count(3)")
                .due("best(0, 0, 0)", NOTHING)
                .due("thin(0, 0)", 0)
                .due("status()", 0)
                .due("within(4)", -1).due("status()", -1)
                .due("within(3)", 1).due("status()", 0)
                .due("row(0, 0, 0)", -2).due("status()", -2)
                .due("print()", 0).due("status()", 0)
                .due("row(0, -1, 0)", -1).due("status()", -1)
                .due("row(0, 0, 0)", 0).due("status()", 0)
                .due("join(0, 1)", -2).due("status()", -2)
                .due("print()", 1).due("status()", 0)
                .due("join(1, 1)", -1).due("status()", -1)
                .due("join(0, 1)", 0).due("status()", 0);
        Sentence.says("Promise 15", "What the latest call of print, row, within, join was REFUSED by")
                .due("join(3, 4)", -2)
                .dueEach(-2, "status()", "status()")
                .dueEach(NONE, "cell(0, 0, 0, 9)", "mark(0, 0, 9)", "pairs(0, 0, 9, 0, 0)", "bound(0, 9)")
                .dueEach(NONE, "seek(0, 9)", "chance(0, 0, 17)", "count(9)")
                .due("best(0, 0, 9)", NOTHING).due("thin(0, 24)", 0)
                .due("status()", -2)
                .due("chance(0, 0, 0)", 1).due("count(0)", 0)
                .due("status()", -2)
                .due("row(0, 24, 0)", -1).due("row(0, 23, 0)", -2).due("status()", -2)
                .due("within(-1)", -1).due("status()", -1);
        Sentence five = Sentence.says("Promise 15", "What the latest call of print");
        for (int print = 0; print < 16; print++) {
            five.due("print()", print).due("status()", 0);
        }
        five.due("print()", -5).dueEach(-5, "status()", "status()")
                .due("cell(0, 0, 0, 0)", 0).due("best(0, 1, 0)", 0).due("status()", -5)
                .due("join(0, 1)", 0).due("status()", 0);
    }
}
