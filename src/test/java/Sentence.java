import java.io.IOException;
import java.lang.reflect.Method;
import java.nio.file.Files;
import java.nio.file.Path;
import java.util.Arrays;

/**
 * One sentence of the document, with a new book on which it is tried. A call is written as a text, which
 * is both what is called and what is told if the answer is not the one due.
 */
final class Sentence {
    private static final Path DOCUMENT = Path.of("../shared/DOC.md");
    private static final int MOST_CALLS = 512;

    private static int sentences = 0;
    private static int wrong = 0;

    private final String name;
    private final RidgeBooks book = new RidgeBooks();
    private int calls = 0;

    private Sentence(String name) {
        this.name = name;
    }

    /** Words must stand in the document just so: a test whose sentence was changed is to be read again. */
    static Sentence says(String where, String words) {
        Sentence sentence = new Sentence(where + ", \"" + words + "\"");
        sentences++;
        if (Files.exists(DOCUMENT) && !document().contains(words)) {
            sentence.tell("the document does not say this");
        }
        return sentence;
    }

    private static String document() {
        try {
            return Files.readString(DOCUMENT).replaceAll("\\s+", " ");
        } catch (IOException e) {
            throw new IllegalStateException("the document can't be read", e);
        }
    }

    Sentence due(String call, long want) {
        long got = answer(call);
        if (got != want) {
            tell(call + " answered " + got + ", due is " + want);
        }
        return this;
    }

    Sentence dueEach(long want, String... sameAnswer) {
        for (String call : sameAnswer) {
            due(call, want);
        }
        return this;
    }

    /** A new PRINT whose rows, from y on upwards, are these texts; x goes from the left, # is full. */
    Sentence draw(int x, int y, String... rows) {
        long print = answer("print()");
        for (int k = 0; k < rows.length; k++) {
            int bits = bitsOf(rows[k], x);
            if (bits != 0) {
                due("row(" + print + ", " + (y + k) + ", " + bits + ")", 0);
            }
        }
        return this;
    }

    /** All rows of the PRINT as THINNED: these texts from y on upwards, and nothing elsewhere. */
    Sentence dueThinned(int print, int x, int y, String... rows) {
        for (int at = 0; at < 24; at++) {
            String row = at >= y && at < y + rows.length ? rows[at - y] : "";
            due("thin(" + print + ", " + at + ")", bitsOf(row, x));
        }
        return this;
    }

    /** All MARKS of the PRINT in their order: x, y, DIRECTION (8 a FORK). */
    Sentence dueMarks(int print, int[]... marks) {
        int forks = (int) Arrays.stream(marks).filter(mark -> mark[2] == 8).count();
        due("mark(" + print + ", -1, 0)", marks.length);
        due("mark(" + print + ", -1, 1)", marks.length - forks);
        due("mark(" + print + ", -1, 2)", forks);
        for (int i = 0; i < marks.length; i++) {
            for (int what = 0; what <= 2; what++) {
                due("mark(" + print + ", " + i + ", " + what + ")", marks[i][what]);
            }
        }
        return due("mark(" + print + ", " + marks.length + ", 0)", -1);
    }

    Sentence dueBest(int p, int q, int score, int turn, int dx, int dy) {
        int[] wants = {score, turn, dx, dy};
        for (int what = 0; what < wants.length; what++) {
            due("best(" + p + ", " + q + ", " + what + ")", wants[what]);
        }
        return this;
    }

    Sentence dueSeek(int p, int found, int score, int looked) {
        int[] wants = {found, score, looked};
        for (int what = 0; what < wants.length; what++) {
            due("seek(" + p + ", " + what + ")", wants[what]);
        }
        return this;
    }

    int callsMade() {
        return calls;
    }

    static void end() {
        String told = wrong == 0 ? "all answers are as due" : wrong + " answers are not as due";
        System.out.println(sentences + " sentences, " + told);
        if (wrong != 0) {
            System.exit(1);
        }
    }

    private void tell(String fault) {
        wrong++;
        System.out.println(name + ": " + fault);
    }

    private long answer(String call) {
        calls++;
        if (calls > MOST_CALLS) {
            throw new IllegalStateException(name + ": more calls than a book answers");
        }
        String inside = call.substring(call.indexOf('(') + 1, call.length() - 1);
        String[] numbers = inside.isEmpty() ? new String[0] : inside.split(", ");
        Class<?>[] types = new Class<?>[numbers.length];
        Object[] values = new Object[numbers.length];
        for (int k = 0; k < numbers.length; k++) {
            types[k] = int.class;
            values[k] = number(numbers[k]);
        }
        try {
            Method method = RidgeBooks.class.getMethod(call.substring(0, call.indexOf('(')), types);
            return ((Number) method.invoke(book, values)).longValue();
        } catch (ReflectiveOperationException e) {
            throw new IllegalStateException(name + ": " + call, e);
        }
    }

    private static int bitsOf(String row, int x) {
        int bits = 0;
        for (int k = 0; k < row.length(); k++) {
            bits |= row.charAt(k) == '#' ? 1 << (x + k) : 0;
        }
        return bits;
    }

    private static int number(String text) {
        switch (text) {
            case "MIN": return Integer.MIN_VALUE;
            case "MAX": return Integer.MAX_VALUE;
            default: return Integer.parseInt(text);
        }
    }
}
