import java.util.List;
import java.util.function.Supplier;

/**
 * "Refusals, the first that the call's words name; they change nothing: BAD (-2: a number is none such or not as told),
 * STATE (-3), FULL (-4); the host's: -11 nothing where something is asked, -12 a place outside, -13 a thing of another
 * sort or KIND, -14 a size below 0." Each refusal of each promise, on both sides of what is taken; which of two is
 * answered where both would fit; and that later calls show no change. The calls that only ask show none either.
 */
public final class RefusalsTest {
    private static final int LEAST = Integer.MIN_VALUE;
    private static final int MOST = Integer.MAX_VALUE;
    private static final int BAD = -2;
    private static final int STATE = -3;
    private static final int FULL = -4;
    private static final int NONE = -1;
    private static final long NO = -4611686018427387904L;
    private static final int NO_SUCH = -100000;
    private static final int NOTHING = -11;
    private static final int OUTSIDE = -12;
    private static final int UNLIKE = -13;
    private static final int BELOW = -14;
    private static final String WHOLE = "slack0;worth0;spills0;";

    private interface Call {
        long on(TableRocks x);
    }

    private static Supplier<TableRocks> made;
    private static List<Long> shown;

    public static void main(String[] args) {
        inUse();
        floorAndLegs();
        setAndTold();
        tape();
        howItStands();
        truly();
        numbersAsked();
        sheets();
        items();
        copies();
        floors();
        taken();
        asking();
        fullOfTexts();
        fullTape();
        firmOne();
        noneAnswered();
        Due.end("RefusalsTest");
    }

    /** From here on each call is made of an object of this kind. */
    private static void each(Supplier<TableRocks> objects) {
        made = objects;
        shown = Shown.of(objects.get());
        Due.is("two made alike are shown alike", Shown.of(objects.get()).equals(shown) ? 1 : 0, 1);
    }

    private static void refused(String call, long due, Call refused) {
        TableRocks x = made.get();
        Due.is(call, refused.on(x), due);
        Due.is(call + " once more", refused.on(x), due);
        Due.is(call + " changes nothing", Shown.of(x).equals(shown) ? 1 : 0, 1);
    }

    /** It shows what is changed: else no test here would tell anything. */
    private static void inUse() {
        each(Shown::used);
        Call[] changes = {x -> x.floor(63, 1), x -> x.leg(3, 1, 5), x -> x.set(0, 0, 7), x -> x.set(1, 3, 1),
            x -> x.set(2, 0, 1), x -> x.set(3, 0, 2), x -> x.set(4, 0, 0), x -> x.set(5, 0, 9), x -> x.feed(0),
            x -> x.text(), x -> x.force(1), x -> x.turn(1), x -> x.wedge(), x -> x.saw(), x -> x.image(),
            x -> x.back(), x -> x.sheet(0, -1, 0), x -> x.sheet(0, 1, 3), x -> x.sheet(2, 2, 3), x -> x.sheet(3, 0, 0),
            x -> x.cell(0, 0, 8), x -> x.cell(1, 3, 98), x -> x.copy(0, 0, 0, 1, 2), x -> x.floors(2, 2, 0, 1)};
        for (int i = 0; i < changes.length; i++) {
            TableRocks x = made.get();
            changes[i].on(x);
            Due.is("change " + i + " is shown", Shown.of(x).equals(shown) ? 1 : 0, 0);
        }
    }

    /** Promises 2, 3 and 4: "BAD." */
    private static void floorAndLegs() {
        for (int bad : new int[] {-1, 64, LEAST, MOST}) {
            refused("floor(" + bad + ", 5)", BAD, x -> x.floor(bad, 5));
        }
        for (int bad : new int[] {-1, 100, LEAST, MOST}) {
            refused("floor(5, " + bad + ")", BAD, x -> x.floor(5, bad));
            refused("wave(" + bad + ", 1, 1)", BAD, x -> x.wave(bad, 1, 1));
            refused("wave(1, " + bad + ", 1)", BAD, x -> x.wave(1, bad, 1));
            refused("wave(1, 1, " + bad + ")", BAD, x -> x.wave(1, 1, bad));
        }
        for (int bad : new int[] {-1, 4, LEAST, MOST}) {
            refused("leg(" + bad + ", 1, 1)", BAD, x -> x.leg(bad, 1, 1));
        }
        for (int bad : new int[] {-1, 6, LEAST, MOST}) {
            refused("leg(1, " + bad + ", 1)", BAD, x -> x.leg(1, bad, 1));
        }
        for (int bad : new int[] {-1, 10, LEAST, MOST}) {
            refused("leg(1, 1, " + bad + ")", BAD, x -> x.leg(1, 1, bad));
        }
    }

    /** Promises 5 and 6: "becomes v: what it was. BAD." "of a CELL: 6 HEIGHT. BAD." */
    private static void setAndTold() {
        int[] most = {99, 9, 63, 3, 7, 9};
        int[] least = {0, 0, 0, 1, 0, 0};
        for (int what = 0; what <= 5; what++) {
            int of = what;
            for (int bad : new int[] {least[what] - 1, most[what] + 1, LEAST, MOST}) {
                refused("set(" + of + ", 0, " + bad + ")", BAD, x -> x.set(of, 0, bad));
            }
        }
        for (int bad : new int[] {-1, 4, LEAST, MOST}) {
            refused("set(0, " + bad + ", 1)", BAD, x -> x.set(0, bad, 1));
            refused("set(1, " + bad + ", 1)", BAD, x -> x.set(1, bad, 1));
            for (int what = 0; what <= 5; what++) {
                int of = what;
                refused("told(" + bad + ", " + of + ")", BAD, x -> x.told(bad, of));
            }
        }
        for (int bad : new int[] {-1, 6, LEAST, MOST}) {
            refused("set(" + bad + ", 1, 1)", BAD, x -> x.set(bad, 1, 1));
        }
        for (int bad : new int[] {-1, 7, LEAST, MOST}) {
            refused("told(1, " + bad + ")", BAD, x -> x.told(1, bad));
        }
        for (int bad : new int[] {-1, 64, LEAST, MOST}) {
            refused("told(" + bad + ", 6)", BAD, x -> x.told(bad, 6));
        }
    }

    /** Promises 7 and 9: "BAD; FULL." "A TEXT is THE RULE: which was. BAD." */
    private static void tape() {
        for (int bad : new int[] {-1, 256, LEAST, MOST}) {
            refused("feed(" + bad + ")", BAD, x -> x.feed(bad));
        }
        for (int bad : new int[] {-1, 3, LEAST, MOST}) {
            refused("force(" + bad + ")", BAD, x -> x.force(bad));
        }
    }

    /** Promises 10, 11, 13, 14 and 15: "-100000: what." "-100000: none such." "BAD; NONE." "BAD." "-100000: what." */
    private static void howItStands() {
        for (int bad : new int[] {-1, 6, LEAST, MOST}) {
            refused("stands(" + bad + ")", NO_SUCH, x -> x.stands(bad));
            refused("standsAt(5, 5, " + bad + ")", NO_SUCH, x -> x.standsAt(5, 5, bad));
        }
        for (int bad : new int[] {-1, 64, LEAST, MOST}) {
            refused("standsAt(" + bad + ", 5, 5)", NO_SUCH, x -> x.standsAt(bad, 5, 5));
        }
        for (int bad : new int[] {-1, 8, LEAST, MOST}) {
            refused("standsAt(5, " + bad + ", 5)", NO_SUCH, x -> x.standsAt(5, bad, 5));
        }
        for (int bad : new int[] {-1, 2, LEAST, MOST}) {
            refused("fewest(" + bad + ")", BAD, x -> x.fewest(bad));
            refused("feels(" + bad + ")", BAD, x -> x.feels(bad));
        }
        for (int bad : new int[] {-1, 3, LEAST, MOST}) {
            refused("best(" + bad + ")", NO_SUCH, x -> x.best(bad));
        }
    }

    /** Promises 16, 20 and 21: "ROCK. BAD." "-100000: what." "BAD; NONE." */
    private static void truly() {
        for (int bad : new int[] {-8, 8, -16, 16, LEAST, MOST}) {
            refused("turn(" + bad + ")", BAD, x -> x.turn(bad));
        }
        for (int bad : new int[] {-1, 2, LEAST, MOST}) {
            refused("blame(" + bad + ")", NO_SUCH, x -> x.blame(bad));
            refused("beside(" + bad + ")", BAD, x -> x.beside(bad));
        }
    }

    /** Promises 23, 24, 26 and 29: "BAD: SHEET; -11; NONE." "NO: no such SHEET, missing." "NO: n, part." "BAD." */
    private static void numbersAsked() {
        for (int bad : new int[] {-1, 4, LEAST, MOST}) {
            refused("judge(" + bad + ")", BAD, x -> x.judge(bad));
            refused("which(" + bad + ")", NO, x -> x.which(bad));
        }
        refused("judge(3), missing", NOTHING, x -> x.judge(3));
        refused("which(3), missing", NO, x -> x.which(3));
        for (int bad : new int[] {0, 31, -1, LEAST, MOST}) {
            refused("odds(1, " + bad + ", 0)", NO, x -> x.odds(1, bad, 0));
            refused("odds(1, " + bad + ", 1)", NO, x -> x.odds(1, bad, 1));
            refused("odds(1, " + bad + ", 2)", NO, x -> x.odds(1, bad, 2));
        }
        for (int bad : new int[] {-1, 2, LEAST, MOST}) {
            refused("odds(1, 1, " + bad + ")", NO, x -> x.odds(1, 1, bad));
            refused("odds(1, 30, " + bad + ")", NO, x -> x.odds(1, 30, bad));
        }
        for (int bad : new int[] {-1, 7, LEAST, MOST}) {
            refused("count(" + bad + ")", BAD, x -> x.count(bad));
        }
    }

    /** Promise 30: "BAD: no such SHEET, sort; n above 40; -14." */
    private static void sheets() {
        for (int bad : new int[] {-1, 4, LEAST, MOST}) {
            refused("sheet(" + bad + ", 0, 1)", BAD, x -> x.sheet(bad, 0, 1));
            refused("sheet(" + bad + ", -1, 1)", BAD, x -> x.sheet(bad, -1, 1));
            refused("sheet(" + bad + ", 0, -1), also below 0", BAD, x -> x.sheet(bad, 0, -1));
        }
        for (int bad : new int[] {-2, 3, LEAST, MOST}) {
            refused("sheet(0, " + bad + ", 1)", BAD, x -> x.sheet(0, bad, 1));
            refused("sheet(0, " + bad + ", -1), also below 0", BAD, x -> x.sheet(0, bad, -1));
        }
        for (int sort = 0; sort <= 2; sort++) {
            int of = sort;
            refused("sheet(0, " + of + ", 41)", BAD, x -> x.sheet(0, of, 41));
            refused("sheet(0, " + of + ", most)", BAD, x -> x.sheet(0, of, MOST));
            refused("sheet(0, " + of + ", -1)", BELOW, x -> x.sheet(0, of, -1));
            refused("sheet(0, " + of + ", least)", BELOW, x -> x.sheet(0, of, LEAST));
            refused("sheet(3, " + of + ", -1), missing", BELOW, x -> x.sheet(3, of, -1));
            refused("sheet(3, " + of + ", 41), missing", BAD, x -> x.sheet(3, of, 41));
        }
    }

    /** Promise 31: "BAD: no such SHEET; -11; -12." */
    private static void items() {
        for (int bad : new int[] {-1, 4, LEAST, MOST}) {
            refused("cell(" + bad + ", 0, 1)", BAD, x -> x.cell(bad, 0, 1));
            refused("cell(" + bad + ", -1, 1), also outside", BAD, x -> x.cell(bad, -1, 1));
        }
        for (int i : new int[] {0, -1, 40, LEAST, MOST}) {
            refused("cell(3, " + i + ", 1), missing", NOTHING, x -> x.cell(3, i, 1));
        }
        int[] sizes = {3, 4, 2};
        for (int sheet = 0; sheet <= 2; sheet++) {
            int of = sheet;
            for (int i : new int[] {-1, sizes[sheet], LEAST, MOST}) {
                refused("cell(" + of + ", " + i + ", 1)", OUTSIDE, x -> x.cell(of, i, 1));
            }
        }
    }

    /** Promise 32: "BAD: no such SHEET; -11; -13: they are of unlike sorts; -12 (also with n below 0)." */
    private static void copies() {
        for (int bad : new int[] {-1, 4, LEAST, MOST}) {
            refused("copy(" + bad + ", 0, 0, 0, 1)", BAD, x -> x.copy(bad, 0, 0, 0, 1));
            refused("copy(0, 0, " + bad + ", 0, 1)", BAD, x -> x.copy(0, 0, bad, 0, 1));
            refused("copy(" + bad + ", 0, 3, 0, 1), also missing", BAD, x -> x.copy(bad, 0, 3, 0, 1));
            refused("copy(3, 0, " + bad + ", 0, 1), also missing", BAD, x -> x.copy(3, 0, bad, 0, 1));
            refused("copy(0, 9, " + bad + ", 9, 9), also outside", BAD, x -> x.copy(0, 9, bad, 9, 9));
        }
        refused("copy(3, 0, 0, 0, 1), missing", NOTHING, x -> x.copy(3, 0, 0, 0, 1));
        refused("copy(0, 0, 3, 0, 1), missing", NOTHING, x -> x.copy(0, 0, 3, 0, 1));
        refused("copy(3, 0, 3, 0, 0), missing", NOTHING, x -> x.copy(3, 0, 3, 0, 0));
        refused("copy(3, 9, 0, 0, -1), also outside", NOTHING, x -> x.copy(3, 9, 0, 0, -1));
        refused("copy(0, 0, 3, 0, -1), also below 0", NOTHING, x -> x.copy(0, 0, 3, 0, -1));
        refused("copy(0, 0, 1, 0, 1), unlike", UNLIKE, x -> x.copy(0, 0, 1, 0, 1));
        refused("copy(1, 0, 2, 0, 1), unlike", UNLIKE, x -> x.copy(1, 0, 2, 0, 1));
        refused("copy(2, 0, 0, 0, 0), unlike, of none", UNLIKE, x -> x.copy(2, 0, 0, 0, 0));
        refused("copy(0, 9, 1, 0, 1), also outside", UNLIKE, x -> x.copy(0, 9, 1, 0, 1));
        refused("copy(0, 0, 1, 0, -1), also below 0", UNLIKE, x -> x.copy(0, 0, 1, 0, -1));
        for (int n : new int[] {-1, 5, LEAST, MOST}) {
            refused("copy(1, 0, 1, 0, " + n + ")", OUTSIDE, x -> x.copy(1, 0, 1, 0, n));
            refused("copy(1, 4, 1, 4, " + n + ")", OUTSIDE, x -> x.copy(1, 4, 1, 4, n));
        }
        for (int i : new int[] {-1, 5, LEAST, MOST}) {
            refused("copy(1, " + i + ", 1, 0, 0)", OUTSIDE, x -> x.copy(1, i, 1, 0, 0));
            refused("copy(1, 0, 1, " + i + ", 0)", OUTSIDE, x -> x.copy(1, 0, 1, i, 0));
            refused("copy(1, " + i + ", 1, 0, most)", OUTSIDE, x -> x.copy(1, i, 1, 0, MOST));
            refused("copy(1, 0, 1, " + i + ", most)", OUTSIDE, x -> x.copy(1, 0, 1, i, MOST));
        }
        refused("copy(1, 1, 1, 0, 4)", OUTSIDE, x -> x.copy(1, 1, 1, 0, 4));
        refused("copy(1, 0, 1, 1, 4)", OUTSIDE, x -> x.copy(1, 0, 1, 1, 4));
        refused("copy(1, 4, 1, 0, 1)", OUTSIDE, x -> x.copy(1, 4, 1, 0, 1));
        refused("copy(1, 0, 1, 4, 1)", OUTSIDE, x -> x.copy(1, 0, 1, 4, 1));
        refused("copy(1, 4, 1, 4, 0), nothing", 0, x -> x.copy(1, 4, 1, 4, 0));
    }

    /** Promise 33: "BAD: no such SHEET, sort, n; -13; -11 (also with n 0); -12: what stood ahead became so." */
    private static void floors() {
        for (int bad : new int[] {-1, 4, LEAST, MOST}) {
            refused("floors(" + bad + ", 0, 0, 1)", BAD, x -> x.floors(bad, 0, 0, 1));
        }
        for (int bad : new int[] {-1, 3, LEAST, MOST}) {
            refused("floors(0, " + bad + ", 0, 1)", BAD, x -> x.floors(0, bad, 0, 1));
            refused("floors(3, " + bad + ", 0, 1), also missing", BAD, x -> x.floors(3, bad, 0, 1));
        }
        for (int bad : new int[] {-1, 21, LEAST, MOST}) {
            refused("floors(2, 2, 0, " + bad + ")", BAD, x -> x.floors(2, 2, 0, bad));
            refused("floors(2, 0, 0, " + bad + "), also unlike", BAD, x -> x.floors(2, 0, 0, bad));
            refused("floors(3, 2, 0, " + bad + "), also missing", BAD, x -> x.floors(3, 2, 0, bad));
        }
        for (int sort = 0; sort <= 2; sort++) {
            int other = (sort + 1) % 3;
            int of = sort;
            refused("floors(3, " + of + ", 0, 0), missing", NOTHING, x -> x.floors(3, of, 0, 0));
            refused("floors(3, " + of + ", 0, 1), missing", NOTHING, x -> x.floors(3, of, 0, 1));
            refused("floors(3, " + of + ", -1, 1), also outside", NOTHING, x -> x.floors(3, of, -1, 1));
            refused("floors(" + of + ", " + other + ", 0, 1)", UNLIKE, x -> x.floors(of, other, 0, 1));
            refused("floors(" + of + ", " + other + ", 0, 0)", UNLIKE, x -> x.floors(of, other, 0, 0));
            refused("floors(" + of + ", " + other + ", 9, 1), also outside", UNLIKE, x -> x.floors(of, other, 9, 1));
        }
        for (int from : new int[] {-1, -2, 1, 2, 3, LEAST, LEAST + 1, MOST, MOST - 1}) {
            refused("floors(2, 2, " + from + ", 1)", OUTSIDE, x -> x.floors(2, 2, from, 1));
            refused("floors(2, 2, " + from + ", 20)", OUTSIDE, x -> x.floors(2, 2, from, 20));
        }
        refused("floors(2, 2, 0, 0), none", 0, x -> x.floors(2, 2, 0, 0));
    }

    /** Promise 34: "BAD: k; -11: no such LEG; -13." */
    private static void taken() {
        for (int bad : new int[] {-1, 6, LEAST, MOST}) {
            refused("taken(0, " + bad + ")", BAD, x -> x.taken(0, bad));
            refused("taken(4, " + bad + "), also no leg", BAD, x -> x.taken(4, bad));
        }
        for (int bad : new int[] {-1, 4, LEAST, MOST}) {
            for (int k = 0; k <= 5; k++) {
                int kind = k;
                refused("taken(" + bad + ", " + kind + ")", NOTHING, x -> x.taken(bad, kind));
            }
        }
        refused("taken(0, 4), a sprung one", UNLIKE, x -> x.taken(0, 4));
        refused("taken(1, 1), a plain one", UNLIKE, x -> x.taken(1, 1));
    }

    /** What asks only, and is answered: the answers are those of a first object, and no later call shows a change. */
    private static void asking() {
        Call[] calls = {x -> x.told(0, 0), x -> x.told(3, 5), x -> x.told(63, 6), x -> x.stands(0), x -> x.stands(1),
            x -> x.stands(5), x -> x.standsAt(0, 0, 4), x -> x.standsAt(63, 7, 5), x -> x.firm(), x -> x.fewest(0),
            x -> x.fewest(1), x -> x.feels(0), x -> x.feels(1), x -> x.best(0), x -> x.best(1), x -> x.best(2),
            x -> x.screwed(), x -> x.blame(0), x -> x.blame(1), x -> x.beside(0), x -> x.beside(1), x -> x.sit(),
            x -> x.judge(0), x -> x.judge(1), x -> x.which(1), x -> x.drawn(-9), x -> x.odds(5, 30, 0),
            x -> x.odds(MOST, 30, 1), x -> x.count(0), x -> x.count(6), x -> x.taken(0, 0), x -> x.turn(0),
            x -> x.copy(1, 0, 1, 0, 4), x -> x.copy(2, 0, 2, 0, 0)};
        for (int i = 0; i < calls.length; i++) {
            refused("asked " + i, calls[i].on(made.get()), calls[i]);
        }
    }

    /** Promises 7 and 8: "BAD; FULL." "FULL: no TEXT more has room (THE TAPE stays)." */
    private static void fullOfTexts() {
        for (String tape : new String[] {WHOLE, "slack !", ""}) {
            each(() -> Shown.full(tape));
            refused("text(), the seventh", FULL, x -> x.text());
            for (int letter : new int[] {0, 32, 59, 255}) {
                refused("feed(" + letter + ") of a full tape", FULL, x -> x.feed(letter));
            }
            for (int bad : new int[] {-1, 256, LEAST, MOST}) {
                refused("feed(" + bad + ") of a full tape", BAD, x -> x.feed(bad));
            }
            refused("force(6)", BAD, x -> x.force(6));
            refused("back() without an image", STATE, x -> x.back());
        }
    }

    /** Promise 7: "BAD; FULL." Of a tape whose text has room: it is read as it was. */
    private static void fullTape() {
        each(RefusalsTest::fullOfOneText);
        for (int letter : new int[] {0, 32, 59, 255}) {
            refused("feed(" + letter + ") of a full tape", FULL, x -> x.feed(letter));
        }
        for (int bad : new int[] {-1, 256, LEAST, MOST}) {
            refused("feed(" + bad + ") of a full tape", BAD, x -> x.feed(bad));
        }
        TableRocks x = fullOfOneText();
        x.feed(33);
        Due.is("text() of a full tape", x.text(), 1);
    }

    private static TableRocks fullOfOneText() {
        TableRocks x = new TableRocks();
        Due.feed(x, "slack0;worth7;spills8;" + " ".repeat(138));
        return x;
    }

    /** Promises 17, 18, 28: "how thick. STATE: it is FIRM." "ROCK then. STATE: it is FIRM." "STATE: there is none." */
    private static void firmOne() {
        each(TableRocks::new);
        refused("wedge(), firm", STATE, x -> x.wedge());
        refused("saw(), firm", STATE, x -> x.saw());
        refused("back() without an image", STATE, x -> x.back());
        each(RefusalsTest::firmBySlack);
        refused("wedge(), firm by slack", STATE, x -> x.wedge());
        refused("saw(), firm by slack", STATE, x -> x.saw());
        each(RefusalsTest::firmByWhatGives);
        refused("wedge(), firm by what gives", STATE, x -> x.wedge());
        refused("saw(), firm by what gives", STATE, x -> x.saw());
    }

    private static TableRocks firmBySlack() {
        TableRocks x = Due.ruled("slack 9;worth rock;spills 7;");
        x.floor(28, 9);
        return x;
    }

    private static TableRocks firmByWhatGives() {
        TableRocks x = new TableRocks();
        x.leg(1, 5, 4);
        x.leg(3, 5, 5);
        x.floor(28, 9);
        return x;
    }

    /** Promises 13, 19, 21, 22 and 23: "NONE." */
    private static void noneAnswered() {
        each(RefusalsTest::neverFirm);
        refused("fewest(0)", NONE, x -> x.fewest(0));
        refused("fewest(1)", NONE, x -> x.fewest(1));
        refused("fewest(2)", BAD, x -> x.fewest(2));
        refused("fewest(-1)", BAD, x -> x.fewest(-1));
        refused("screwed()", NONE, x -> x.screwed());
        refused("beside(0)", NONE, x -> x.beside(0));
        refused("beside(1)", NONE, x -> x.beside(1));
        refused("beside(2)", BAD, x -> x.beside(2));
        refused("beside(-1)", BAD, x -> x.beside(-1));
        refused("sit()", NONE, x -> x.sit());
        refused("judge(0)", NONE, x -> x.judge(0));
        refused("which(0)", -1, x -> x.which(0));
    }

    private static TableRocks neverFirm() {
        TableRocks x = new TableRocks();
        x.set(0, 0, 99);
        for (int leg = 0; leg <= 3; leg++) {
            x.leg(leg, 2, 5);
        }
        x.set(5, 0, 3);
        Due.fill(x, 0, 1, 1, 1, 1);
        return x;
    }
}
