/**
 * Each call with each of its numbers at and next to every edge that the document names, all against all, on objects
 * that are new and on such as are in use: the program answers as the model does, and both stand alike afterwards.
 */
public final class EdgeNumbersTest {
    private static final int LEAST = Integer.MIN_VALUE;
    private static final int MOST = Integer.MAX_VALUE;
    private static final int[] EDGES = {LEAST, LEAST + 1, -257, -129, -101, -100, -99, -15, -14, -13, -9, -8, -7, -6,
        -5, -4, -3, -2, -1, 0, 1, 2, 3, 4, 5, 6, 7, 8, 9, 10, 19, 20, 21, 26, 27, 28, 29, 30, 31, 39, 40, 41, 42, 49,
        50, 62, 63, 64, 65, 98, 99, 100, 101, 127, 128, 159, 160, 161, 254, 255, 256, 257, 32767, 32768, 65535, 65536,
        MOST - 1, MOST};
    private static final int[] FEW = {LEAST, -2, -1, 0, 1, 2, 3, 4, 5, 20, 21, MOST};
    /** With the calls that set an object up, and those that compare, no object is used for more than 512. */
    private static final int CALLS = 280;

    private interface Answer {
        long of(int a, int b, int c);
    }

    private TableRocks x;
    private Model m;
    private int calls = CALLS;
    private boolean isNew = true;

    public static void main(String[] args) {
        EdgeNumbersTest test = new EdgeNumbersTest();
        for (int a : EDGES) {
            test.one(a);
            for (int b : EDGES) {
                test.two(a, b);
                for (int c : EDGES) {
                    test.three(a, b, c);
                }
            }
        }
        test.rows();
        test.alike();
        Due.end("EdgeNumbersTest");
    }

    /** Every other object is a new one. */
    private void ready() {
        if (calls < CALLS) {
            return;
        }
        if (x != null) {
            alike();
        }
        x = new TableRocks();
        m = new Model();
        calls = 0;
        isNew = !isNew;
        if (!isNew) {
            use();
        }
    }

    private void same(String call, long got, long want) {
        calls++;
        Due.is(call, got, want);
    }

    private void use() {
        same("wave", x.wave(3, 5, 1), m.wave(3, 5, 1));
        for (int leg = 0; leg <= 3; leg++) {
            same("leg", x.leg(leg, leg + 1, 3), m.leg(leg, leg + 1, 3));
        }
        same("set", x.set(0, 3, 60), m.set(0, 3, 60));
        same("set", x.set(5, 0, 3), m.set(5, 0, 3));
        same("set", x.set(4, 0, 6), m.set(4, 0, 6));
        for (char letter : "slack turn;worth y-x*rock;spills lean-give;".toCharArray()) {
            same("feed", x.feed(letter), m.feed(letter));
        }
        same("text", x.text(), m.text());
        same("force", x.force(1), m.force(1));
        same("image", x.image(), m.image());
        for (int sheet = 0; sheet <= 2; sheet++) {
            same("sheet", x.sheet(sheet, sheet, 4 - sheet), m.sheet(sheet, sheet, 4 - sheet));
            same("cell", x.cell(sheet, 1, 60), m.cell(sheet, 1, 60));
        }
    }

    private void alike() {
        for (int what = 0; what <= 6; what++) {
            same("count(" + what + ")", x.count(what), m.count(what));
        }
        for (int leg = 0; leg <= 3; leg++) {
            for (int what = 0; what <= 5; what++) {
                same("told(" + leg + ", " + what + ")", x.told(leg, what), m.told(leg, what));
            }
        }
        for (int cell = 0; cell <= 63; cell++) {
            same("told(" + cell + ", 6)", x.told(cell, 6), m.told(cell, 6));
        }
        for (int what = 0; what <= 5; what++) {
            same("stands(" + what + ")", x.stands(what), m.stands(what));
        }
        for (int sheet = 0; sheet <= 3; sheet++) {
            same("judge(" + sheet + ")", x.judge(sheet), m.judge(sheet));
            same("floors(" + sheet + ")", x.floors(sheet, sheet, 0, 2), m.floors(sheet, sheet, 0, 2));
        }
        same("back()", x.back(), m.back());
        same("stands(1)", x.stands(1), m.stands(1));
    }

    private void both(String call, Answer program, Answer model, int a, int b, int c) {
        ready();
        same(call + " of " + a + ", " + b + ", " + c, program.of(a, b, c), model.of(a, b, c));
    }

    private void one(int a) {
        for (int round = 0; round < 2; round++) {
            calls = CALLS;
            both("feed", (i, j, k) -> x.feed(i), (i, j, k) -> m.feed(i), a, 0, 0);
            both("force", (i, j, k) -> x.force(i), (i, j, k) -> m.force(i), a, 0, 0);
            both("stands", (i, j, k) -> x.stands(i), (i, j, k) -> m.stands(i), a, 0, 0);
            both("fewest", (i, j, k) -> x.fewest(i), (i, j, k) -> m.fewest(i), a, 0, 0);
            both("feels", (i, j, k) -> x.feels(i), (i, j, k) -> m.feels(i), a, 0, 0);
            both("best", (i, j, k) -> x.best(i), (i, j, k) -> m.best(i), a, 0, 0);
            both("blame", (i, j, k) -> x.blame(i), (i, j, k) -> m.blame(i), a, 0, 0);
            both("beside", (i, j, k) -> x.beside(i), (i, j, k) -> m.beside(i), a, 0, 0);
            both("judge", (i, j, k) -> x.judge(i), (i, j, k) -> m.judge(i), a, 0, 0);
            both("which", (i, j, k) -> x.which(i), (i, j, k) -> m.which(i), a, 0, 0);
            both("drawn", (i, j, k) -> x.drawn(i), (i, j, k) -> m.drawn(i), a, 0, 0);
            both("count", (i, j, k) -> x.count(i), (i, j, k) -> m.count(i), a, 0, 0);
            both("turn", (i, j, k) -> x.turn(i), (i, j, k) -> m.turn(i), a, 0, 0);
            both("firm", (i, j, k) -> x.firm(), (i, j, k) -> m.firm(), 0, 0, 0);
            both("screwed", (i, j, k) -> x.screwed(), (i, j, k) -> m.screwed(), 0, 0, 0);
            both("sit", (i, j, k) -> x.sit(), (i, j, k) -> m.sit(), 0, 0, 0);
            both("saw", (i, j, k) -> x.saw(), (i, j, k) -> m.saw(), 0, 0, 0);
            both("wedge", (i, j, k) -> x.wedge(), (i, j, k) -> m.wedge(), 0, 0, 0);
            both("text", (i, j, k) -> x.text(), (i, j, k) -> m.text(), 0, 0, 0);
        }
    }

    private void two(int a, int b) {
        both("told", (i, j, k) -> x.told(i, j), (i, j, k) -> m.told(i, j), a, b, 0);
        both("taken", (i, j, k) -> x.taken(i, j), (i, j, k) -> m.taken(i, j), a, b, 0);
        both("floor", (i, j, k) -> x.floor(i, j), (i, j, k) -> m.floor(i, j), a, b, 0);
    }

    private void three(int a, int b, int c) {
        both("wave", (i, j, k) -> x.wave(i, j, k), (i, j, k) -> m.wave(i, j, k), a, b, c);
        both("leg", (i, j, k) -> x.leg(i, j, k), (i, j, k) -> m.leg(i, j, k), a, b, c);
        both("set", (i, j, k) -> x.set(i, j, k), (i, j, k) -> m.set(i, j, k), a, b, c);
        both("standsAt", (i, j, k) -> x.standsAt(i, j, k), (i, j, k) -> m.standsAt(i, j, k), a, b, c);
        both("odds", (i, j, k) -> x.odds(i, j, k), (i, j, k) -> m.odds(i, j, k), a, b, c);
        both("sheet", (i, j, k) -> x.sheet(i, j, k), (i, j, k) -> m.sheet(i, j, k), a, b, c);
        both("cell", (i, j, k) -> x.cell(i, j, k), (i, j, k) -> m.cell(i, j, k), a, b, c);
    }

    private void rows() {
        for (int sheet : FEW) {
            for (int other : FEW) {
                for (int a : FEW) {
                    for (int b : FEW) {
                        row(sheet, other, a, b);
                    }
                }
            }
        }
    }

    /** Sheet 3 is of the same sort as sheet 2 is, now and then. */
    private void row(int sheet, int other, int a, int b) {
        ready();
        String call = sheet + ", " + a + ", " + other + ", " + b;
        if (calls % 3 == 0) {
            same("sheet", x.sheet(3, 2, 3), m.sheet(3, 2, 3));
        }
        for (int n : FEW) {
            same("copy " + call + ", " + n, x.copy(sheet, a, other, b, n), m.copy(sheet, a, other, b, n));
        }
        same("floors " + call, x.floors(sheet, other, a, b), m.floors(sheet, other, a, b));
    }
}
