/**
 * The edges that the promises 1 to 34 name beside their refusals (of which RefusalsTest tells) and beside those that
 * 'Terms' names (FloorEdgesTest, TextEdgesTest, StandEdgesTest): a test for each promise, whose words stand in quotes
 * ahead of it.
 */
public final class PromiseEdgesTest {
    private static final int LEAST = Integer.MIN_VALUE;
    private static final int MOST = Integer.MAX_VALUE;
    private static final int BAD = TableRocks.BAD;
    private static final int STATE = TableRocks.STATE;
    private static final int NONE = TableRocks.NONE;
    private static final int OUTSIDE = -12;
    private static final String SHORTEST = "slack0;worth0;spills0;";

    public static void main(String[] args) {
        calls512();
        promise1();
        promise2();
        promise3();
        promise4();
        promise5();
        promise6();
        promise7();
        promise8();
        promise9();
        promise10();
        promise11();
        promise12();
        promise13();
        promise14();
        promise15();
        promise16();
        promise17();
        promise18();
        promise19();
        promise20();
        promise21();
        promise22();
        promise23();
        promise24();
        promise25();
        promise26();
        promise27();
        promise28();
        imageOnce();
        promise29();
        sheetsOfSorts();
        promise30();
        promise31();
        promise32();
        promise33();
        floorsStopped();
        promise34();
        Due.end("PromiseEdgesTest");
    }

    /** "An object is used for at most 512 calls after it has been made; what later calls answer is free." */
    private static void calls512() {
        TableRocks x = new TableRocks();
        int calls = Due.text(x, SHORTEST) + 22;
        for (int v = 1; calls < 511; v = (v + 1) % 100) {
            Due.is("floor", x.floor(28, v), (v + 99) % 100);
            calls++;
        }
        Due.is("the 512th call", x.stands(0), (511 - 23) % 100);
        x = new TableRocks();
        for (int call = 1; call <= 512; call++) {
            Due.is("turn(1), call " + call, x.turn(1), 0);
        }
    }

    /** Promise 1: "A flat floor, four like LEGS." No object knows of another. */
    private static void promise1() {
        TableRocks x = new TableRocks();
        TableRocks other = new TableRocks();
        other.wave(9, 8, 7);
        other.leg(0, 5, 5);
        other.set(0, 0, 9);
        Due.text(other, SHORTEST);
        other.force(1);
        other.image();
        other.sheet(0, 2, 9);
        other.feed(1);
        x = firstOf(x);
        for (int leg = 0; leg <= 3; leg++) {
            for (int what = 0; what <= 3; what++) {
                Due.is("legs are alike", x.told(leg, what), what % 2 == 1 ? 50 : 0);
            }
        }
        for (int cell = 0; cell <= 63; cell++) {
            Due.is("the floor is flat", x.told(cell, 6), 0);
        }
    }

    private static TableRocks firstOf(TableRocks x) {
        int[] counts = {27, 1, 0, 0, 1, 0, 0};
        for (int what = 0; what <= 6; what++) {
            Due.is("count(" + what + ") at first", x.count(what), counts[what]);
        }
        for (int sheet = 0; sheet <= 3; sheet++) {
            Due.is("sheet " + sheet + " at first", x.judge(sheet), -11);
        }
        Due.is("no image at first", x.back(), STATE);
        Due.is("the tape is empty at first", x.text(), -100);
        return x;
    }

    /** Promise 2: "HEIGHT of a CELL becomes v: what it was. BAD." */
    private static void promise2() {
        TableRocks x = new TableRocks();
        int[][] calls = {{0, 0, 0}, {0, 99, 0}, {0, 99, 99}, {0, 0, 99}, {63, 99, 0}, {63, 1, 99}, {63, 0, 1}};
        for (int[] c : calls) {
            Due.is("floor(" + c[0] + ", " + c[1] + ")", x.floor(c[0], c[1]), c[2]);
            Due.is("told(" + c[0] + ", 6)", x.told(c[0], 6), c[1]);
        }
        x.floor(31, 5);
        Due.is("the cell ahead stays", x.told(30, 6), 0);
        Due.is("the cell behind stays", x.told(32, 6), 0);
    }

    /**
     * Promise 3: "HEIGHTS of all CELLS become (y times a, and x times b, and y times x times c) modulo 100 (a, b, c 0
     * .. 99): all HEIGHTS together. BAD."
     */
    private static void promise3() {
        int[][] waves = {{0, 0, 0, 0, 0}, {25, 0, 0, 2400, 75}, {0, 25, 0, 2400, 75}, {0, 0, 25, 1600, 25},
            {99, 0, 0, 5376, 93}, {0, 99, 0, 5376, 93}, {0, 0, 99, 4116, 51}, {99, 99, 99, 5068, 37},
            {50, 50, 0, 1600, 0}, {1, 1, 1, 1232, 63}, {0, 0, 0, 0, 0}};
        TableRocks x = new TableRocks();
        for (int[] w : waves) {
            Due.is("wave(" + w[0] + ", " + w[1] + ", " + w[2] + ")", x.wave(w[0], w[1], w[2]), w[3]);
            Due.is("its last height", x.told(63, 6), w[4]);
            Due.is("its first height", x.told(0, 6), 0);
        }
        for (int cell = 0; cell <= 63; cell++) {
            x.floor(cell, 9);
        }
        x.wave(25, 0, 0);
        int[] byRow = {0, 25, 50, 75, 0, 25, 50, 75};
        for (int cell = 0; cell <= 63; cell++) {
            Due.is("100 becomes 0", x.told(cell, 6), byRow[cell / 8]);
        }
    }

    /** Promise 4: "A LEG becomes one of a KIND and NUMBER: the KIND that it was. BAD." Its LONG stays. */
    private static void promise4() {
        TableRocks x = new TableRocks();
        x.set(0, 3, 98);
        int was = 0;
        for (int kind : new int[] {0, 5, 5, 0, 1, 4, 2, 3, 0}) {
            Due.is("leg(3, " + kind + ", 9)", x.leg(3, kind, 9 - kind), was);
            Due.is("told(3, 0)", x.told(3, 0), kind);
            Due.is("told(3, 1)", x.told(3, 1), 98);
            Due.is("told(3, 2)", x.told(3, 2), 9 - kind);
            was = kind;
        }
    }

    /**
     * Promise 5: "LONG (what 0), NUMBER (1) of a LEG, PLACE (2), RADIUS (3), TURN (4), LOAD (5; by 2 .. 5 of does not
     * matter) becomes v: what it was. BAD."
     */
    private static void promise5() {
        int[] first = {0, 0, 27, 1, 0, 0};
        for (int of : new int[] {0, 3, 4, -1, LEAST, MOST}) {
            TableRocks x = new TableRocks();
            for (int what = 2; what <= 5; what++) {
                Due.is("set(" + what + ", " + of + ", 3)", x.set(what, of, 3), first[what]);
                Due.is("set(" + what + ", " + of + ", 2)", x.set(what, of, 2), 3);
                Due.is("count(" + (what - 2) + ")", x.count(what - 2), 2);
            }
        }
        for (int of = 0; of <= 3; of++) {
            TableRocks x = new TableRocks();
            Due.is("set(0, " + of + ", 7)", x.set(0, of, 7), 50);
            Due.is("set(1, " + of + ", 8)", x.set(1, of, 8), 0);
            for (int leg = 0; leg <= 3; leg++) {
                Due.is("long of " + leg, x.told(leg, 1), leg == of ? 7 : 50);
                Due.is("number of " + leg, x.told(leg, 2), leg == of ? 8 : 0);
            }
        }
    }

    /**
     * Promise 6: "Of a LEG: 0 KIND, 1 LONG, 2 NUMBER, 3 TALL, 4 the CELL on which it stands, 5 STANDS at; of a CELL: 6
     * HEIGHT. BAD."
     */
    private static void promise6() {
        TableRocks x = new TableRocks();
        x.leg(3, 1, 9);
        x.set(0, 3, 40);
        x.set(5, 0, 9);
        x.set(2, 0, 7);
        x.floor(7, 88);
        int[] due = {1, 40, 9, 45, 7, 133};
        for (int what = 0; what <= 5; what++) {
            Due.is("told(3, " + what + ")", x.told(3, what), due[what]);
        }
        Due.is("told(7, 6)", x.told(7, 6), 88);
        Due.is("told(3, 6), of a cell", x.told(3, 6), 0);
    }

    /** Promise 7: "A byte (0 .. 255) comes behind THE TAPE: how many it has. BAD; FULL." */
    private static void promise7() {
        TableRocks x = new TableRocks();
        Due.is("feed(-1)", x.feed(-1), BAD);
        Due.is("feed(0)", x.feed(0), 1);
        Due.is("feed(256)", x.feed(256), BAD);
        Due.is("feed(255)", x.feed(255), 2);
        for (int i = 3; i <= 160; i++) {
            Due.is("feed", x.feed(i % 256), i);
        }
        Due.is("feed(0), full", x.feed(0), TableRocks.FULL);
        Due.is("text()", x.text(), -100);
        Due.is("feed(0), empty", x.feed(0), 1);
    }

    /**
     * Promise 8: "THE TAPE, which is empty then (by a FAULT, too), is a TEXT: its number; -100 less the place of its
     * FAULT. FULL: no TEXT more has room (THE TAPE stays)."
     */
    private static void promise8() {
        TableRocks x = new TableRocks();
        Due.is("text() of an empty tape", x.text(), -100);
        Due.is("text() of one byte too few", Due.text(x, SHORTEST.substring(0, 21)), -121);
        Due.is("the tape is empty", x.count(5), 0);
        Due.is("text() of one byte too many", Due.text(x, SHORTEST + "x"), -122);
        Due.is("the tape is empty", x.count(5), 0);
        Due.is("no text by a fault", x.count(4), 1);
        Due.is("text()", Due.text(x, SHORTEST), 1);
        Due.is("the tape is empty", x.count(5), 0);
        Due.is("text(): the one ahead is not read again", x.text(), -100);
        Due.is("text() of a longer one", Due.text(x, "slack not 0;worth not 0;spills not not 0 + 7;"), 2);
        for (int n = 3; n <= 5; n++) {
            Due.is("text()", Due.text(x, SHORTEST), n);
            x.force(n);
            Due.is("worth: nothing of the longer one", x.stands(4), 0);
            Due.is("spills: nothing of the longer one", x.stands(5), 0);
        }
        Due.is("text() of an empty tape, full", x.text(), TableRocks.FULL);
        Due.is("text(), full", Due.text(x, SHORTEST), TableRocks.FULL);
        Due.is("the tape stays", x.count(5), 22);
        Due.is("feed behind it", x.feed('!'), 23);
        Due.is("text() of a fault, full", x.text(), TableRocks.FULL);
        Due.is("the tape stays", x.count(5), 23);
    }

    /** Promise 9: "A TEXT is THE RULE: which was. BAD." */
    private static void promise9() {
        TableRocks x = new TableRocks();
        Due.is("force(1), none such", x.force(1), BAD);
        for (int n = 1; n <= 5; n++) {
            Due.text(x, "slack0;worth" + n + ";spills" + n + ";");
            Due.is("force(" + n + ")", x.force(n), n - 1);
            Due.is("force(" + (n + 1) + "), none such", x.force(n + 1), BAD);
            Due.is("worth", x.stands(4), n);
            Due.is("count(6)", x.count(6), n);
        }
        Due.is("force(5) once more", x.force(5), 5);
        Due.is("force(0)", x.force(0), 5);
        Due.is("force(-1)", x.force(-1), BAD);
        Due.is("worth", x.stands(4), 0);
    }

    /**
     * Promise 10: "THE GAP (what 0), ROCK (1), LEAN (2), LOOSE LEGS (3; bits; 0: THE GAP is 0), worth (4), spills (5).
     * -100000: what."
     */
    private static void promise10() {
        int[] flat = {0, 0, 0, 0, 0, 0};
        int[] up = {1, 1, 1, 10, -10, 3};
        int[] down = {-1, 1, 1, 5, -10, 3};
        int[] steep = {198, 198, 198, 10, -999, 99};
        for (int what = 0; what <= 5; what++) {
            Due.is("stands(" + what + "), flat", Due.uneven(0, 0, 0, 0).stands(what), flat[what]);
            Due.is("stands(" + what + "), up", Due.uneven(0, 0, 1, 0).stands(what), up[what]);
            Due.is("stands(" + what + "), down", Due.uneven(0, 0, 0, 1).stands(what), down[what]);
            Due.is("stands(" + what + "), steep", Due.uneven(99, 0, 99, 0).stands(what), steep[what]);
        }
        Due.is("stands(-1)", new TableRocks().stands(-1), -100000);
        Due.is("stands(6)", new TableRocks().stands(6), -100000);
    }

    /** Promise 11: "Likewise AT a TURN and PLACE. -100000: none such." */
    private static void promise11() {
        TableRocks x = Due.ruled("slack0;worth y*100+x*10+turn;spills0;");
        for (int place : new int[] {0, 7, 27, 56, 63}) {
            for (int turn = 0; turn <= 7; turn++) {
                int due = place / 8 * 100 + place % 8 * 10 + turn;
                Due.is("standsAt(" + place + ", " + turn + ", 4)", x.standsAt(place, turn, 4), due);
            }
        }
        int[][] none = {{-1, 0, 0}, {64, 0, 0}, {0, -1, 0}, {0, 8, 0}, {0, 0, -1}, {0, 0, 6}, {64, 8, 6}};
        for (int[] n : none) {
            Due.is("standsAt, none such", x.standsAt(n[0], n[1], n[2]), -100000);
        }
    }

    /** Promise 12: "TURNS at which it is FIRM (bits)." */
    private static void promise12() {
        Due.is("firm() at none", firmAt("0").firm(), 0);
        Due.is("firm() at the first", firmAt("turn=0").firm(), 1);
        Due.is("firm() at the last", firmAt("turn=7").firm(), 128);
        Due.is("firm() at all", firmAt("1").firm(), 255);
    }

    /** Promise 13: "FEWEST: how many (what 0), the TURN (1). BAD; NONE." */
    private static void promise13() {
        TableRocks x = firmAt("turn=7");
        Due.is("fewest(0)", x.fewest(0), 1);
        Due.is("fewest(1)", x.fewest(1), 7);
        Due.is("fewest(2)", x.fewest(2), BAD);
        x = firmAt("0");
        Due.is("fewest(0)", x.fewest(0), NONE);
        Due.is("fewest(1)", x.fewest(1), NONE);
        Due.is("fewest(-1), also none", x.fewest(-1), BAD);
        Due.is("fewest(2), also none", x.fewest(2), BAD);
    }

    /** Leg 0 is 9 too long everywhere, and it is firm where E is true. */
    private static TableRocks firmAt(String e) {
        TableRocks x = Due.ruled("slack 9*(0<(" + e + "));worth 0;spills 0;");
        x.set(0, 0, 59);
        return x;
    }

    /** Promise 14: "BY FEELING: steps (what 0), whether it is FIRM then (1). BAD." */
    private static void promise14() {
        int[][] due = {{0, 0, 1}, {1, 1, 1}, {7, 7, 1}};
        for (int[] d : due) {
            TableRocks x = firmAt("turn=" + d[0]);
            Due.is("feels(0)", x.feels(0), d[1]);
            Due.is("feels(1)", x.feels(1), d[2]);
        }
        TableRocks x = firmAt("0");
        Due.is("feels(0)", x.feels(0), 8);
        Due.is("feels(1)", x.feels(1), 0);
        Due.is("feels(-1)", x.feels(-1), BAD);
        Due.is("feels(2)", x.feels(2), BAD);
    }

    /** Promise 15: "BEST: the PLACE (what 0), TURN (1), worth (2). -100000: what." */
    private static void promise15() {
        TableRocks x = Due.ruled("slack0;worth y*8+x+turn*9-99;spills0;");
        int[] due = {63, 7, 27, -100000};
        for (int what = 0; what <= 3; what++) {
            Due.is("best(" + what + ")", x.best(what), due[what]);
        }
        Due.is("best(-1)", x.best(-1), -100000);
    }

    /** Promise 16: "It is truly turned by steps (-7 .. 7): ROCK. BAD." */
    private static void promise16() {
        for (int turn = 0; turn <= 7; turn++) {
            for (int steps = -7; steps <= 7; steps++) {
                TableRocks x = Due.uneven(7, 0, 0, 0);
                x.set(4, 0, turn);
                int then = (turn + steps + 8) % 8;
                Due.is("turn(" + steps + ") from " + turn, x.turn(steps), then % 2 == 0 ? 7 : 0);
                Due.is("count(2)", x.count(2), then);
            }
        }
        TableRocks x = new TableRocks();
        Due.is("turn(8)", x.turn(8), BAD);
        Due.is("turn(-8)", x.turn(-8), BAD);
        Due.is("count(2)", x.count(2), 0);
    }

    /** Promise 17: "A WEDGE truly lies beneath: how thick. STATE: it is FIRM." */
    private static void promise17() {
        TableRocks x = Due.uneven(0, 1, 0, 0);
        Due.is("wedge()", x.wedge(), 1);
        Due.is("it lies truly", x.told(28, 6), 1);
        Due.is("wedge(), firm", x.wedge(), STATE);
        x = Due.uneven(99, 99, 99, 0);
        Due.is("wedge() of no room", x.wedge(), 99);
        Due.is("height", x.told(35, 6), 99);
        Due.is("it still rocks", x.wedge(), 99);
    }

    /** Promise 18: "It is truly SAWN: ROCK then. STATE: it is FIRM." */
    private static void promise18() {
        TableRocks x = Due.uneven(0, 1, 0, 0);
        Due.is("saw()", x.saw(), 0);
        Due.is("half of 1, cut", x.told(1, 1), 50);
        Due.is("the rest", x.told(3, 1), 49);
        Due.is("saw(), firm", x.saw(), STATE);
        for (int leg = 0; leg <= 3; leg++) {
            x.set(0, leg, 0);
        }
        Due.is("saw() of nothing long", x.saw(), 1);
        Due.is("long", x.told(1, 1), 0);
        Due.is("long", x.told(3, 1), 0);
    }

    /** Promise 19: "SCREWED. NONE." */
    private static void promise19() {
        TableRocks x = new TableRocks();
        Due.is("screwed(), firm, without a screw", x.screwed(), 0);
        x.set(0, 1, 53);
        Due.is("screwed() of a gap -3, without a screw", x.screwed(), NONE);
        x.leg(0, 4, 0);
        x.set(0, 0, 48);
        Due.is("screwed() of a gap -3", x.screwed(), 1);
        x.set(0, 0, 49);
        Due.is("screwed() of a gap -2", x.screwed(), NONE);
        x.set(0, 0, 42);
        Due.is("screwed() of a gap -9", x.screwed(), 3);
        x.set(0, 0, 39);
        Due.is("screwed() of a gap -12", x.screwed(), NONE);
    }

    /** Promise 20: "BLAME: what is THE TABLE's (what 0), THE FLOOR's (1). -100000: what." */
    private static void promise20() {
        TableRocks x = new TableRocks();
        x.set(0, 0, 59);
        x.floor(28, 4);
        Due.is("blame(0)", x.blame(0), 9);
        Due.is("blame(1)", x.blame(1), 4);
        Due.is("blame(-1)", x.blame(-1), -100000);
        Due.is("blame(2)", x.blame(2), -100000);
        x.set(4, 0, 6);
        Due.is("blame(0) at turn 6, and 0", x.blame(0), 9);
        Due.is("blame(1) at turn 6, and 0", x.blame(1), -4);
        x.set(4, 0, 7);
        Due.is("blame(0) at turn 7, and 1", x.blame(0), 9);
        Due.is("blame(1) at turn 7, and 1", x.blame(1), 0);
    }

    /** Promise 21: "BESIDE: the PLACE (what 0), TURN (1). BAD; NONE." */
    private static void promise21() {
        TableRocks x = firmAt("y*8+x=63 and turn=7");
        Due.is("beside(0)", x.beside(0), 63);
        Due.is("beside(1)", x.beside(1), 7);
        Due.is("beside(-1)", x.beside(-1), BAD);
        Due.is("beside(2)", x.beside(2), BAD);
        x.set(2, 0, 63);
        Due.is("beside(0), where it stands", x.beside(0), NONE);
        Due.is("beside(1), where it stands", x.beside(1), NONE);
        Due.is("beside(2), also none", x.beside(2), BAD);
    }

    /** Promise 22: "SIT. NONE." */
    private static void promise22() {
        TableRocks x = new TableRocks();
        Due.is("sit(), firm", x.sit(), 0);
        x.set(0, 0, 47);
        Due.is("sit() of a gap -3", x.sit(), NONE);
        x.leg(1, 5, 3);
        Due.is("sit() of a gap -3, and a sprung one", x.sit(), 1);
        x.set(0, 0, 23);
        Due.is("sit() of a gap -27", x.sit(), 9);
        x.set(0, 0, 22);
        Due.is("sit() of a gap -28", x.sit(), NONE);
        x.set(0, 0, 23);
        x.set(5, 0, 9);
        Due.is("sit() by all the load", x.sit(), 0);
    }

    /** Promise 23: "JUDGED. BAD: SHEET; -11; NONE." */
    private static void promise23() {
        for (int sort = 0; sort <= 2; sort++) {
            TableRocks x = firmAt("turn=1");
            Due.is("judge(3), missing", x.judge(3), -11);
            x.sheet(3, sort, 0);
            Due.is("judge(3) of nothing told", x.judge(3), NONE);
            x.sheet(3, sort, 1);
            Due.is("judge(3), otherwise", x.judge(3), 0);
            x.cell(3, 0, 1);
            Due.is("judge(3), so", x.judge(3), NONE);
            x.sheet(3, sort, 40);
            x.cell(3, 0, 1);
            Due.is("judge(3), the third otherwise", x.judge(3), 2);
            x.sheet(3, -1, 0);
            Due.is("judge(3), missing anew", x.judge(3), -11);
            Due.is("judge(4)", x.judge(4), BAD);
            Due.is("judge(-1)", x.judge(-1), BAD);
        }
    }

    /** Promise 24: "WHICH. NO: no such SHEET, missing." */
    private static void promise24() {
        for (int sort = 0; sort <= 2; sort++) {
            TableRocks x = firmAt("turn=1");
            Due.is("which(3), missing", x.which(3), TableRocks.NO);
            x.sheet(3, sort, 0);
            Due.is("which(3) of nothing told", x.which(3), -1L);
            x.sheet(3, sort, 1);
            Due.is("which(3), none", x.which(3), 0);
            x.cell(3, 0, 1);
            Due.is("which(3), all", x.which(3), -1L);
            x.sheet(3, sort, 40);
            x.cell(3, 0, 1);
            Due.is("which(3), none", x.which(3), 0);
            x.sheet(3, -1, 0);
            Due.is("which(3), missing anew", x.which(3), TableRocks.NO);
            Due.is("which(4)", x.which(4), TableRocks.NO);
            Due.is("which(-1)", x.which(-1), TableRocks.NO);
        }
    }

    /** Promise 25: "DRAWN." */
    private static void promise25() {
        for (int seed : new int[] {LEAST, LEAST + 1, -1, 0, 1, MOST - 1, MOST}) {
            Due.is("drawn(" + seed + "), firm nowhere", firmAt("0").drawn(seed), 9);
            Due.is("drawn(" + seed + "), firm everywhere", firmAt("1").drawn(seed), 0);
        }
    }

    /**
     * Promise 26: "IN n seeds: part 0 above, 1 below the line, in lowest terms. NO: n, part." Of 30 as many as turns
     * are drawn of these.
     */
    private static void promise26() {
        TableRocks x = firmAt("0");
        for (int turns = 0; turns <= 8; turns++) {
            x = firmAt("turn<" + turns);
            int firm = 0;
            for (int seed = 0; seed < 30; seed++) {
                firm += x.drawn(seed) == 0 ? 1 : 0;
            }
            long above = x.odds(0, 30, 0);
            long below = x.odds(0, 30, 1);
            Due.is("above by below is as many by 30", above * 30, firm * below);
            for (int d = 2; d <= 30; d++) {
                Due.is("in lowest terms", above % d == 0 && below % d == 0 ? 1 : 0, 0);
            }
        }
        Due.is("all of 30, above", x.odds(0, 30, 0), 1);
        Due.is("all of 30, below", x.odds(0, 30, 1), 1);
        x = firmAt("0");
        Due.is("none of 30, above", x.odds(0, 30, 0), 0);
        Due.is("none of 30, below", x.odds(0, 30, 1), 1);
        Due.is("none of 1, below", x.odds(0, 1, 1), 1);
    }

    /** Promise 27: "AN IMAGE is kept: TURN." A later one takes the place of the first. */
    private static void promise27() {
        TableRocks x = new TableRocks();
        for (int turn = 0; turn <= 7; turn++) {
            x.set(4, 0, turn);
            Due.is("image()", x.image(), turn);
            Due.is("count(2)", x.count(2), turn);
        }
        x.set(4, 0, 3);
        Due.is("back() to the last", x.back(), 7);
    }

    /** Promise 28: "All that it keeps is as in THE IMAGE: TURN. STATE: there is none." Once, and once more. */
    private static void promise28() {
        TableRocks x = new TableRocks();
        Due.is("back(), none", x.back(), STATE);
        x.turn(7);
        Due.is("back(), none still", x.back(), STATE);
        Due.is("count(2)", x.count(2), 7);
        x.image();
        x.turn(4);
        Due.is("back()", x.back(), 7);
        Due.is("count(2)", x.count(2), 7);
        Due.is("back() at once", x.back(), 7);
        x.turn(1);
        Due.is("back() once more", x.back(), 7);
        Due.is("count(2)", x.count(2), 7);
    }

    /** "KINDS of LEGS stay" Nor does an image keep TEXTS, THE TAPE or SHEETS; what is changed later is not in it. */
    private static void imageOnce() {
        TableRocks x = new TableRocks();
        x.image();
        x.leg(0, 3, 9);
        x.set(0, 0, 99);
        x.floor(0, 99);
        Due.text(x, SHORTEST);
        x.force(1);
        Due.feed(x, "abc");
        Due.fill(x, 0, 0, 9);
        Due.is("back()", x.back(), 0);
        Due.is("kind stays", x.told(0, 0), 3);
        Due.is("number is as it was", x.told(0, 2), 0);
        Due.is("long is as it was", x.told(0, 1), 50);
        Due.is("height is as it was", x.told(0, 6), 0);
        Due.is("the rule is as it was", x.count(6), 0);
        Due.is("texts stay", x.count(4), 2);
        Due.is("the tape stays", x.count(5), 3);
        Due.is("sheets stay", x.judge(0), 0);
        x.set(1, 0, 5);
        x.floor(0, 7);
        Due.is("back() once more", x.back(), 0);
        Due.is("number is as it was", x.told(0, 2), 0);
        Due.is("height is as it was", x.told(0, 6), 0);
    }

    /** Promise 29: "How many: 0 PLACE, 1 RADIUS, 2 TURN, 3 LOAD, 4 TEXTS, 5 bytes of THE TAPE, 6 THE RULE. BAD." */
    private static void promise29() {
        TableRocks x = new TableRocks();
        for (int n = 1; n <= 5; n++) {
            Due.text(x, SHORTEST);
            Due.is("count(4)", x.count(4), n + 1);
        }
        Due.feed(x, " ".repeat(160));
        x.set(2, 0, 63);
        x.set(3, 0, 3);
        x.set(4, 0, 7);
        x.set(5, 0, 9);
        x.force(5);
        int[] due = {63, 3, 7, 9, 6, 160, 5, BAD};
        for (int what = 0; what <= 7; what++) {
            Due.is("count(" + what + ")", x.count(what), due[what]);
        }
        Due.is("count(-1)", x.count(-1), BAD);
    }

    /**
     * 'Terms' 3: "SHEETS 0 .. 3 are rows of numbers, or missing (as all are at first): of sort 0 bytes, 1 shorts, 2
     * ints (with their sign)." What begins with the sign is no height, nor a cell, nor a knock.
     */
    private static void sheetsOfSorts() {
        TableRocks x = new TableRocks();
        for (int sheet = 0; sheet <= 3; sheet++) {
            Due.is("missing at first", x.judge(sheet), -11);
            Due.is("missing at first", x.cell(sheet, 0, 0), -11);
        }
        int[][] signs = {{0, 127}, {0, -128}, {0, -1}, {1, 32767}, {1, -32768}, {1, -1}, {2, MOST}, {2, LEAST},
            {2, -1}};
        for (int[] s : signs) {
            Due.fill(x, 0, s[0], 5, s[1]);
            Due.is("floors() of height " + s[1], x.floors(0, s[0], 0, 1), 0);
            Due.fill(x, 0, s[0], s[1], 5);
            Due.is("floors() of cell " + s[1], x.floors(0, s[0], 0, 1), 0);
            Due.is("judge() of knock " + s[1], x.judge(0), 0);
        }
        Due.is("sheet(-1, 0, 1)", x.sheet(-1, 0, 1), BAD);
        Due.is("sheet(4, 0, 1)", x.sheet(4, 0, 1), BAD);
    }

    /**
     * Promise 30: "A SHEET becomes a row of n of a sort, all 0, or missing (sort -1: n does not matter): 1. BAD: no
     * such SHEET, sort; n above 40; -14."
     */
    private static void promise30() {
        TableRocks x = new TableRocks();
        for (int sheet = 0; sheet <= 3; sheet++) {
            for (int sort = 0; sort <= 2; sort++) {
                for (int n : new int[] {0, 1, 39, 40}) {
                    Due.is("sheet(" + sheet + ", " + sort + ", " + n + ")", x.sheet(sheet, sort, n), 1);
                    Due.is("an item behind", x.cell(sheet, n, 7), OUTSIDE);
                    Due.is("all are 0", x.judge(sheet), NONE);
                    Due.is("the last item", x.cell(sheet, n - 1, 7), n == 0 ? OUTSIDE : 1);
                    Due.is("it is 7", x.judge(sheet), n == 0 ? NONE : n - 1);
                }
            }
            for (int n : new int[] {0, 41, -1, LEAST, MOST}) {
                x.sheet(sheet, 0, 2);
                Due.is("sheet(" + sheet + ", -1, " + n + ")", x.sheet(sheet, -1, n), 1);
                Due.is("missing", x.judge(sheet), -11);
                Due.is("missing once more", x.sheet(sheet, -1, n), 1);
            }
        }
        Due.is("sheet(0, 0, 41)", x.sheet(0, 0, 41), BAD);
        Due.is("sheet(0, 0, -1)", x.sheet(0, 0, -1), -14);
    }

    /**
     * Promise 31: "Item i of a SHEET becomes v (of bytes, shorts its lowest 8, 16 bits): 1. BAD: no such SHEET; -11;
     * -12."
     */
    private static void promise31() {
        int[][] low = {{0, 255, -1}, {0, 256, 0}, {0, 257, 1}, {0, -254, 2}, {0, -256, 0}, {0, 65538, 2}, {0, LEAST, 0},
            {0, MOST, -1}, {0, 128, -1}, {1, 256, -1}, {1, 65535, -1}, {1, 65536, 0}, {1, 65537, 1}, {1, -65534, 2},
            {1, LEAST, 0}, {1, MOST, -1}, {1, 32768, -1}, {2, 65536, -1}, {2, 65537, -1}, {2, 1, 1}, {2, 2, 2},
            {2, LEAST, -1}, {2, MOST, -1}, {2, 256, -1}};
        for (int[] l : low) {
            TableRocks x = Due.uneven(l[2] == 1 ? 7 : 0, l[2] == 2 ? 7 : 0, 0, 0);
            Due.fill(x, 1, l[0], l[1]);
            Due.is("judge(1) of " + l[1] + " as " + l[2] + " of sort " + l[0], x.judge(1), l[2] < 0 ? 0 : NONE);
        }
        TableRocks x = new TableRocks();
        x.sheet(2, 2, 40);
        Due.is("cell(2, 0, 0)", x.cell(2, 0, 0), 1);
        Due.is("cell(2, 39, 5)", x.cell(2, 39, 5), 1);
        Due.is("cell(2, 40, 5)", x.cell(2, 40, 5), OUTSIDE);
        Due.is("cell(2, -1, 5)", x.cell(2, -1, 5), OUTSIDE);
        Due.is("the last item alone", x.judge(2), 39);
    }

    /**
     * Promise 32: "n numbers of a SHEET, from item i on, come to another one's (or its own) item j on (as they were):
     * n. BAD: no such SHEET; -11; -13: they are of unlike sorts; -12 (also with n below 0)."
     */
    private static void promise32() {
        for (int sort = 0; sort <= 2; sort++) {
            copySo(sort, 0, 1, 0, 5, 1, 2, 3, 4, 5);
            copySo(sort, 0, 1, 0, 0, 6, 7, 8, 9, 10);
            copySo(sort, 5, 1, 5, 0, 6, 7, 8, 9, 10);
            copySo(sort, 0, 1, 4, 1, 6, 7, 8, 9, 1);
            copySo(sort, 4, 1, 0, 1, 5, 7, 8, 9, 10);
            copySo(sort, 1, 1, 2, 3, 6, 7, 2, 3, 4);
            copySo(sort, 0, 0, 1, 4, 1, 1, 2, 3, 4);
            copySo(sort, 1, 0, 0, 4, 2, 3, 4, 5, 5);
            copySo(sort, 0, 0, 0, 5, 1, 2, 3, 4, 5);
            copySo(sort, 0, 0, 2, 3, 1, 2, 1, 2, 3);
            copySo(sort, 2, 0, 0, 3, 3, 4, 5, 4, 5);
            copySo(sort, 0, 0, 5, 0, 1, 2, 3, 4, 5);
        }
        TableRocks x = new TableRocks();
        x.sheet(0, 1, 40);
        x.sheet(1, 1, 40);
        Due.is("copy of all 40", x.copy(0, 0, 1, 0, 40), 40);
        Due.is("copy of 41", x.copy(0, 0, 1, 0, 41), OUTSIDE);
        x.sheet(1, 1, 0);
        Due.is("copy of none to a row of none", x.copy(0, 40, 1, 0, 0), 0);
        Due.is("copy of one to a row of none", x.copy(0, 0, 1, 0, 1), OUTSIDE);
        Due.is("copy of none behind a row of none", x.copy(0, 0, 1, 1, 0), OUTSIDE);
    }

    /** Of 1 .. 5 in sheet 0 some come to sheet 1, which has 6 .. 10, or to itself. */
    private static void copySo(int sort, int i, int other, int j, int n, int... then) {
        TableRocks x = new TableRocks();
        Due.fill(x, 0, sort, 1, 2, 3, 4, 5);
        Due.fill(x, 1, sort, 6, 7, 8, 9, 10);
        String call = "copy(0, " + i + ", " + other + ", " + j + ", " + n + ")";
        Due.is(call, x.copy(0, i, other, j, n), n);
        isRow(x, call, other, sort, then);
        if (other == 1) {
            isRow(x, call, 0, sort, 1, 2, 3, 4, 5);
        }
    }

    /** Each item gives itself as a height to a cell. */
    private static void isRow(TableRocks x, String call, int sheet, int sort, int... items) {
        for (int i = 0; i < items.length; i++) {
            Due.fill(x, 2, sort, 40 + i, 0);
            Due.is("copy of an item", x.copy(sheet, i, 2, 1, 1), 1);
            Due.is("floors", x.floors(2, sort, 0, 1), 1);
            Due.is("item " + i + " after " + call, x.told(40 + i, 6), items[i]);
        }
        Due.is("no item more", x.copy(sheet, items.length, 2, 1, 1), OUTSIDE);
    }

    /**
     * Promise 33: "HEIGHTS by a SHEET that is taken for one of a sort: from one on, two by two (a CELL, and v, as of
     * floor()), n of them (0 .. 20): how many became so (others are left out)."
     */
    private static void promise33() {
        TableRocks x = new TableRocks();
        Due.fill(x, 0, 2, 0, 99, 63, 1, 64, 5, 5, 100, -1, 6, 7, -1, 0, 0, 0, 50);
        Due.is("floors of none", x.floors(0, 2, 0, 0), 0);
        Due.is("floors of none from outside", x.floors(0, 2, 999, 0), 0);
        Due.is("height of cell 0", x.told(0, 6), 0);
        Due.is("floors of one", x.floors(0, 2, 0, 1), 1);
        Due.is("height of cell 0", x.told(0, 6), 99);
        Due.is("height of cell 63", x.told(63, 6), 0);
        Due.is("floors of two", x.floors(0, 2, 0, 2), 2);
        Due.is("height of cell 63", x.told(63, 6), 1);
        Due.is("floors of six, four left out", x.floors(0, 2, 0, 6), 2);
        Due.is("height of cell 5", x.told(5, 6), 0);
        Due.is("height of cell 7", x.told(7, 6), 0);
        Due.is("floors of all, like ones counted", x.floors(0, 2, 0, 8), 4);
        Due.is("height of cell 0, the last one", x.told(0, 6), 50);
        Due.is("floors of the last", x.floors(0, 2, 14, 1), 1);
        Due.is("floors from an odd one on", x.floors(0, 2, 3, 1), 1);
        Due.is("height of cell 1", x.told(1, 6), 64);
        x.sheet(1, 0, 40);
        Due.is("floors of 20", x.floors(1, 0, 0, 20), 20);
        Due.is("floors of 21", x.floors(1, 0, 0, 21), BAD);
        Due.is("floors of 20 from 1 on", x.floors(1, 0, 1, 20), OUTSIDE);
        Due.is("floors of 19 from 1 on", x.floors(1, 0, 1, 19), 19);
        Due.is("floors of 19 from 2 on", x.floors(1, 0, 2, 19), 19);
        Due.is("floors of -1", x.floors(1, 0, 0, -1), BAD);
    }

    /** Promise 33: "BAD: no such SHEET, sort, n; -13; -11 (also with n 0); -12: what stood ahead became so." */
    private static void floorsStopped() {
        TableRocks x = new TableRocks();
        Due.fill(x, 0, 1, 0, 11, 1, 12, 2);
        Due.is("floors, the third is half outside", x.floors(0, 1, 0, 3), OUTSIDE);
        Due.is("the first became so", x.told(0, 6), 11);
        Due.is("the second became so", x.told(1, 6), 12);
        Due.is("the third did not", x.told(2, 6), 0);
        Due.is("floors from 1 on, the third is outside", x.floors(0, 1, 1, 3), OUTSIDE);
        Due.is("11 is a cell, 1 its height", x.told(11, 6), 1);
        Due.is("12 is a cell, 2 its height", x.told(12, 6), 2);
        x = new TableRocks();
        Due.fill(x, 0, 1, 0, 11, 1, 12, 2);
        for (int from : new int[] {-1, -2, 4, 5, LEAST, MOST}) {
            Due.is("floors from " + from, x.floors(0, 1, from, 2), OUTSIDE);
        }
        for (int cell = 0; cell <= 63; cell++) {
            Due.is("none became so", x.told(cell, 6), 0);
        }
        x.sheet(2, 0, 0);
        Due.is("floors of a row of none", x.floors(2, 0, 0, 1), OUTSIDE);
        Due.is("floors of none of a row of none", x.floors(2, 0, 0, 0), 0);
        Due.is("floors of a missing one, of none", x.floors(3, 0, 0, 0), -11);
    }

    /**
     * Promise 34: "A LEG taken for one of KIND k (0 .. 5), or one under that one (also by others between): LONG. BAD:
     * k; -11: no such LEG; -13."
     */
    private static void promise34() {
        int[][] taken = {{0, 0, 99}, {1, 1, 99}, {1, 0, 99}, {3, 3, 99}, {3, 1, 99}, {3, 0, 99}, {4, 4, 99}, {4, 2, 99},
            {4, 0, 99}, {5, 5, 99}, {5, 0, 99}, {2, 2, 99}, {2, 0, 99}, {0, 1, -13}, {0, 5, -13}, {1, 3, -13},
            {2, 4, -13}, {3, 2, -13}, {4, 1, -13}, {4, 3, -13}, {5, 1, -13}, {5, 2, -13}, {1, 2, -13}, {2, 1, -13},
            {0, 6, BAD}, {0, -1, BAD}};
        for (int leg = 0; leg <= 3; leg++) {
            for (int[] t : taken) {
                TableRocks x = new TableRocks();
                x.leg(leg, t[0], 9);
                x.set(0, leg, 99);
                Due.is("kind " + t[0] + " taken for " + t[1], x.taken(leg, t[1]), t[2]);
                x.set(0, leg, 0);
                Due.is("kind " + t[0] + " taken for " + t[1] + ", long 0", x.taken(leg, t[1]), t[2] == 99 ? 0 : t[2]);
            }
        }
        TableRocks x = new TableRocks();
        Due.is("taken(-1, 0)", x.taken(-1, 0), -11);
        Due.is("taken(4, 0)", x.taken(4, 0), -11);
        Due.is("taken(4, 6)", x.taken(4, 6), BAD);
    }
}
