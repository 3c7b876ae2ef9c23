import java.util.Random;

/** Long runs of mixed calls, right and wrong ones, on RidgeBooks and on PlainBook, which must answer alike. */
public final class ReferenceTests {
    private static final int RUNS = 40;
    private static final int CALLS = 512;

    /** Row 0 first. A way that is wound up and goes from one end, little by little: 52 rounds of thinning. */
    private static final int[] SLOW = {
        9216, 219648, 392448, 261632, 1048448, 1572672, 1028000, 4186048, 6227952, 4099008, 6244336, 4173760,
        1038304, 1572768, 780240, 393184, 260064, 64976, 130880, 98176, 48896, 12160, 19136, 1088};

    private static int wrong = 0;

    private final Random random;
    private final int seed;
    private final RidgeBooks book = new RidgeBooks();
    private final PlainBook plain = new PlainBook();
    private int printCount = 0;
    private int calls = 0;

    private ReferenceTests(int seed) {
        this.seed = seed;
        this.random = new Random(seed);
    }

    public static void main(String[] args) {
        for (int seed = 0; seed < RUNS; seed++) {
            new ReferenceTests(seed).run();
        }
        new ReferenceTests(RUNS).thinSlowly();
        for (int n = -1; n <= 13; n++) {
            for (int k = -1; k <= 13; k++) {
                for (int p = -1; p <= 17; p++) {
                    due(n, "chance(" + n + ", " + k + ", " + p + ")",
                            new RidgeBooks().chance(n, k, p), new PlainBook().chance(n, k, p));
                }
            }
        }
        System.out.println(wrong == 0 ? "all answers are as due" : wrong + " answers are not as due");
        if (wrong != 0) {
            System.exit(1);
        }
    }

    private static void due(int run, String call, long got, long want) {
        if (got != want) {
            wrong++;
            System.out.println("run " + run + ": " + call + " answered " + got + ", due is " + want);
        }
    }

    private void check(String call, long got, long want) {
        calls++;
        due(seed, "call " + calls + ", " + call, got, want);
    }

    private void run() {
        int prints = 2 + random.nextInt(seed % 8 == 0 ? 16 : 4);
        int kind = random.nextInt(5);
        for (int k = 0; k < prints; k++) {
            print();
            draw(k, k > 0 && random.nextInt(3) == 0 ? random.nextInt(5) : kind);
        }
        while (calls < CALLS) {
            callAny();
        }
    }

    private void thinSlowly() {
        print();
        for (int y = 0; y < 24; y++) {
            row(0, y, SLOW[y]);
        }
        for (int y = 0; y < 24; y++) {
            check("thin(0, " + y + ")", book.thin(0, y), plain.thin(0, y));
        }
    }

    private void draw(int print, int kind) {
        int[] rows = kind == 0 ? new int[24] : kind == 1 ? noise(2) : kind == 2 ? noise(4) : ridges(kind);
        for (int y = 0; y < 24 && calls < CALLS - 60; y++) {
            if (rows[y] != 0) {
                row(print, y, rows[y]);
            }
        }
    }

    private int[] noise(int oneIn) {
        int[] rows = new int[24];
        for (int at = 0; at < 576; at++) {
            rows[at / 24] |= random.nextInt(oneIn) == 0 ? 1 << at % 24 : 0;
        }
        return rows;
    }

    /** Ways that wander over the board, one CELL wide or, of the other kind, two and three. */
    private int[] ridges(int kind) {
        int[] rows = new int[24];
        int ways = 1 + random.nextInt(8);
        for (int way = 0; way < ways; way++) {
            int x = random.nextInt(24);
            int y = random.nextInt(24);
            int direction = random.nextInt(8);
            int length = 3 + random.nextInt(18);
            int width = kind == 3 ? 1 : 1 + random.nextInt(3);
            for (int step = 0; step < length; step++) {
                for (int at = 0; at < width * width; at++) {
                    int yy = y + at / width;
                    int xx = x + at % width;
                    if (xx >= 0 && xx < 24 && yy >= 0 && yy < 24) {
                        rows[yy] |= 1 << xx;
                    }
                }
                direction = random.nextInt(5) == 0 ? direction + 7 + random.nextInt(3) : direction;
                x += new int[] {1, 1, 0, -1, -1, -1, 0, 1}[direction % 8];
                y += new int[] {0, 1, 1, 1, 0, -1, -1, -1}[direction % 8];
            }
        }
        return rows;
    }

    /** Most often a number from least to most, now and then one beside, or far off. */
    private int number(int least, int most) {
        int luck = random.nextInt(60);
        if (luck == 0) {
            return least - 1;
        }
        if (luck == 1) {
            return most + 1;
        }
        if (luck == 2) {
            return random.nextBoolean() ? Integer.MIN_VALUE : Integer.MAX_VALUE;
        }
        return least + random.nextInt(most - least + 1);
    }

    private int anyPrint() {
        return number(0, Math.max(0, printCount - 1));
    }

    private void print() {
        int want = plain.print();
        printCount += want >= 0 ? 1 : 0;
        check("print()", book.print(), want);
    }

    private void row(int print, int y, int bits) {
        String call = "row(" + print + ", " + y + ", " + bits + ")";
        check(call, book.row(print, y, bits), plain.row(print, y, bits));
    }

    private void callAny() {
        int luck = random.nextInt(100);
        if (luck < 2) {
            print();
        } else if (luck < 10) {
            row(anyPrint(), number(0, 23), random.nextInt() & random.nextInt());
        } else if (luck < 40) {
            callOfOnePrint(luck - 10);
        } else if (luck < 80) {
            callOfTwoPrints(luck - 40);
        } else if (luck < 83) {
            int t = number(0, 3);
            check("within(" + t + ")", book.within(t), plain.within(t));
        } else if (luck < 90) {
            int what = number(0, 2);
            check("count(" + what + ")", book.count(what), plain.count(what));
        } else {
            check("status()", book.status(), plain.status());
        }
    }

    private void callOfOnePrint(int luck) {
        int print = anyPrint();
        if (luck < 8) {
            int x = number(0, 23);
            int y = number(0, 23);
            int what = number(0, 1);
            String call = "cell(" + print + ", " + x + ", " + y + ", " + what + ")";
            check(call, book.cell(print, x, y, what), plain.cell(print, x, y, what));
        } else if (luck < 16) {
            int y = number(0, 23);
            check("thin(" + print + ", " + y + ")", book.thin(print, y), plain.thin(print, y));
        } else if (luck < 28) {
            int i = number(-1, random.nextBoolean() ? 40 : 5);
            int what = number(0, 2);
            String call = "mark(" + print + ", " + i + ", " + what + ")";
            check(call, book.mark(print, i, what), plain.mark(print, i, what));
        } else {
            int what = number(0, 2);
            check("seek(" + print + ", " + what + ")", book.seek(print, what), plain.seek(print, what));
        }
    }

    private void callOfTwoPrints(int luck) {
        int p = anyPrint();
        int q = anyPrint();
        String both = "(" + p + ", " + q;
        if (luck < 20) {
            int turn = number(0, 3);
            int dx = number(-8, 8);
            int dy = number(-8, 8);
            String call = "pairs" + both + ", " + turn + ", " + dx + ", " + dy + ")";
            check(call, book.pairs(p, q, turn, dx, dy), plain.pairs(p, q, turn, dx, dy));
        } else if (luck < 28) {
            int what = number(0, 3);
            check("best" + both + ", " + what + ")", book.best(p, q, what), plain.best(p, q, what));
        } else if (luck < 36) {
            check("bound" + both + ")", book.bound(p, q), plain.bound(p, q));
        } else {
            check("join" + both + ")", book.join(p, q), plain.join(p, q));
        }
    }
}
