/**
 * The edges that 'Terms' names in its part 1 for THE FLOOR, LEGS and THE TABLE: a test for each sentence, which stands
 * in quotes ahead of it.
 */
public final class FloorEdgesTest {
    private static final int LEAST = Integer.MIN_VALUE;
    private static final int MOST = Integer.MAX_VALUE;
    private static final int BAD = TableRocks.BAD;

    public static void main(String[] args) {
        cellsAreNumbers();
        heights();
        legs();
        kinds();
        longs();
        numbers();
        place();
        radius();
        turn();
        load();
        constants();
        quotients();
        ways();
        beyondTheFloor();
        tallLeg();
        tallFelt();
        tallScrew();
        tallWorn();
        tallCaster();
        tallSprung();
        tallAtLeast();
        givesLeg();
        givesFelt();
        givesScrew();
        givesWorn();
        givesCaster();
        givesSprung();
        Due.end("FloorEdgesTest");
    }

    /** "THE FLOOR: CELLS (y, x), 0 .. 7 both, as numbers 8 times y, and x;" */
    private static void cellsAreNumbers() {
        TableRocks x = new TableRocks();
        x.wave(10, 1, 0);
        for (int cell = 0; cell <= 63; cell++) {
            Due.is("10 y and x of cell " + cell, x.told(cell, 6), cell / 8 * 10 + cell % 8);
        }
        Due.is("cell 0 is (0, 0)", x.told(0, 6), 0);
        Due.is("cell 7 is (0, 7)", x.told(7, 6), 7);
        Due.is("cell 8 is (1, 0)", x.told(8, 6), 10);
        Due.is("cell 56 is (7, 0)", x.told(56, 6), 70);
        Due.is("cell 63 is (7, 7)", x.told(63, 6), 77);
        for (int cell : new int[] {-1, 64, LEAST, MOST}) {
            Due.is("no cell " + cell, x.told(cell, 6), BAD);
            Due.is("no cell " + cell, x.floor(cell, 0), BAD);
            Due.is("no place " + cell, x.set(2, 0, cell), BAD);
        }
    }

    /** "each of a HEIGHT (0 .. 99; 0 at first)." */
    private static void heights() {
        TableRocks x = new TableRocks();
        for (int cell = 0; cell <= 63; cell++) {
            Due.is("height at first", x.told(cell, 6), 0);
            Due.is("floor(cell, 99)", x.floor(cell, 99), 0);
            Due.is("floor(cell, 100)", x.floor(cell, 100), BAD);
            Due.is("floor(cell, -1)", x.floor(cell, -1), BAD);
            Due.is("the last one taken stays", x.told(cell, 6), 99);
            Due.is("floor(cell, 0)", x.floor(cell, 0), 99);
            Due.is("floor(cell, 1)", x.floor(cell, 1), 0);
        }
        Due.is("floor(0, least)", x.floor(0, LEAST), BAD);
        Due.is("floor(0, most)", x.floor(0, MOST), BAD);
    }

    /** "LEGS 0 .. 3," */
    private static void legs() {
        for (int leg = 0; leg <= 3; leg++) {
            TableRocks x = new TableRocks();
            Due.is("leg(" + leg + ", 1, 7)", x.leg(leg, 1, 7), 0);
            for (int other = 0; other <= 3; other++) {
                Due.is("kind of " + other, x.told(other, 0), other == leg ? 1 : 0);
                Due.is("number of " + other, x.told(other, 2), other == leg ? 7 : 0);
            }
        }
        TableRocks x = new TableRocks();
        for (int leg : new int[] {-1, 4, LEAST, MOST}) {
            Due.is("no leg " + leg, x.leg(leg, 0, 0), BAD);
            Due.is("no leg " + leg, x.set(0, leg, 0), BAD);
            Due.is("no leg " + leg, x.set(1, leg, 0), BAD);
            Due.is("no leg " + leg, x.told(leg, 0), BAD);
            Due.is("no leg " + leg, x.taken(leg, 0), -11);
        }
    }

    /**
     * "of KINDS: 0 LEG, 1 FELT under LEG, 2 SCREW under LEG, 3 WORN under FELT, 4 CASTER under SCREW, 5 SPRUNG under
     * LEG (all LEGS at first);" A row for each KIND: for which KINDS it is taken.
     */
    private static void kinds() {
        String[] takenFor = {"0", "01", "02", "013", "024", "05"};
        TableRocks x = new TableRocks();
        for (int leg = 0; leg <= 3; leg++) {
            Due.is("kind at first", x.told(leg, 0), 0);
        }
        for (int kind = 0; kind <= 5; kind++) {
            x.leg(1, kind, 0);
            Due.is("kind", x.told(1, 0), kind);
            for (int k = 0; k <= 5; k++) {
                int due = takenFor[kind].indexOf('0' + k) >= 0 ? 50 : -13;
                Due.is("kind " + kind + " taken for " + k, x.taken(1, k), due);
            }
        }
        for (int kind : new int[] {-1, 6, LEAST, MOST}) {
            Due.is("no kind " + kind, x.leg(1, kind, 0), BAD);
            Due.is("no kind " + kind, x.taken(1, kind), BAD);
        }
        Due.is("kind", x.told(1, 0), 5);
    }

    /** "LONG (0 .. 99; 50 at first)," */
    private static void longs() {
        TableRocks x = new TableRocks();
        for (int leg = 0; leg <= 3; leg++) {
            Due.is("set(0, leg, 0)", x.set(0, leg, 0), 50);
            Due.is("told(leg, 1)", x.told(leg, 1), 0);
            Due.is("set(0, leg, -1)", x.set(0, leg, -1), BAD);
            Due.is("set(0, leg, 99)", x.set(0, leg, 99), 0);
            Due.is("set(0, leg, 100)", x.set(0, leg, 100), BAD);
            Due.is("told(leg, 1)", x.told(leg, 1), 99);
        }
        Due.is("set(0, 0, least)", x.set(0, 0, LEAST), BAD);
        Due.is("set(0, 0, most)", x.set(0, 0, MOST), BAD);
    }

    /** "a NUMBER (0 .. 9; 0 at first)." */
    private static void numbers() {
        TableRocks x = new TableRocks();
        for (int leg = 0; leg <= 3; leg++) {
            Due.is("set(1, leg, 9)", x.set(1, leg, 9), 0);
            Due.is("set(1, leg, 10)", x.set(1, leg, 10), BAD);
            Due.is("told(leg, 2)", x.told(leg, 2), 9);
            Due.is("set(1, leg, 0)", x.set(1, leg, 0), 9);
            Due.is("set(1, leg, -1)", x.set(1, leg, -1), BAD);
            Due.is("told(leg, 2)", x.told(leg, 2), 0);
            Due.is("leg(leg, 0, 9)", x.leg(leg, 0, 9), 0);
            Due.is("leg(leg, 0, 10)", x.leg(leg, 0, 10), BAD);
            Due.is("leg(leg, 0, -1)", x.leg(leg, 0, -1), BAD);
            Due.is("told(leg, 2)", x.told(leg, 2), 9);
            Due.is("leg(leg, 0, 0)", x.leg(leg, 0, 0), 0);
            Due.is("told(leg, 2)", x.told(leg, 2), 0);
        }
        Due.is("set(1, 0, least)", x.set(1, 0, LEAST), BAD);
        Due.is("set(1, 0, most)", x.set(1, 0, MOST), BAD);
    }

    /** "THE TABLE: its PLACE (a CELL; 27 at first)," */
    private static void place() {
        Due.is("place at first", new TableRocks().count(0), 27);
        setSo(2, 0, 27, 0, 63);
    }

    /** "RADIUS (1 .. 3; 1 at first)," */
    private static void radius() {
        Due.is("radius at first", new TableRocks().count(1), 1);
        setSo(3, 1, 1, 1, 3);
    }

    /** "TURN (0 .. 7; 0 at first);" */
    private static void turn() {
        Due.is("turn at first", new TableRocks().count(2), 0);
        setSo(4, 2, 0, 0, 7);
    }

    /** "LOAD (0 .. 9; 0 at first)." */
    private static void load() {
        Due.is("load at first", new TableRocks().count(3), 0);
        setSo(5, 3, 0, 0, 9);
    }

    private static void setSo(int what, int counted, int first, int least, int most) {
        TableRocks x = new TableRocks();
        int was = first;
        for (int v = least; v <= most; v++) {
            Due.is("set(" + what + ", 0, " + v + ")", x.set(what, 0, v), was);
            Due.is("count(" + counted + ")", x.count(counted), v);
            was = v;
        }
        for (int v : new int[] {least - 1, most + 1, LEAST, MOST}) {
            Due.is("set(" + what + ", 0, " + v + ")", x.set(what, 0, v), BAD);
            Due.is("count(" + counted + ")", x.count(counted), most);
        }
        Due.is("set(" + what + ", 0, " + least + ")", x.set(what, 0, least), most);
    }

    /** "NONE is -1; NO, where a long is answered, -4611686018427387904." */
    private static void constants() {
        TableRocks x = new TableRocks();
        Due.is("NONE", TableRocks.NONE, -1);
        Due.is("NO", TableRocks.NO, -4611686018427387904L);
        x.set(0, 0, 59);
        Due.is("NONE as an answer", x.fewest(0), -1);
        Due.is("NO as an answer", x.which(0), -4611686018427387904L);
        Due.is("NO as an answer", x.odds(0, 0, 0), -4611686018427387904L);
    }

    /** "Quotients are cut toward 0." Of FELT, WORN, what a FELT gives, SAW and BLAME the halves. */
    private static void quotients() {
        tall(1, 4, 1, 20, 24);
        tall(1, 4, 9, 20, 20);
        tall(3, 4, 0, 21, 12);
        tall(3, 5, 0, 20, 12);
        gives(1, 9, 1, 0);
        gives(1, 9, 15, 7);
        TableRocks x = new TableRocks();
        x.floor(28, 1);
        Due.is("saw() by a rock 1", x.saw(), 0);
        Due.is("half of it, cut", x.told(0, 1), 50);
        Due.is("the rest of it", x.told(2, 1), 49);
        blameSo(55, 2, 5, 2);
        blameSo(45, 2, -5, 2);
        blameSo(49, 0, -1, 0);
    }

    private static void blameSo(int length, int height, int ofTable, int ofFloor) {
        TableRocks x = new TableRocks();
        x.set(0, 0, length);
        x.floor(28, height);
        Due.is("blame(0)", x.blame(0), ofTable);
        Due.is("blame(1)", x.blame(1), ofFloor);
    }

    /**
     * "LEG k stands, TURN being t, at way (t and 2 k) modulo 8 from its PLACE, RADIUS CELLS far: ways 0 .. 7: to x
     * more; x and y more; y more; y more and x less; x less; both less; y less; y less and x more."
     */
    private static void ways() {
        int[] near = {28, 36, 35, 34, 26, 18, 19, 20};
        int[] farther = {29, 45, 43, 41, 25, 9, 11, 13};
        int[] farthest = {30, 54, 51, 48, 24, 0, 3, 6};
        int[][] byRadius = {near, farther, farthest};
        TableRocks x = new TableRocks();
        for (int radius = 1; radius <= 3; radius++) {
            x.set(3, 0, radius);
            for (int turn = 0; turn <= 7; turn++) {
                x.set(4, 0, turn);
                for (int leg = 0; leg <= 3; leg++) {
                    int due = byRadius[radius - 1][(turn + 2 * leg) % 8];
                    Due.is("cell of leg " + leg + " at turn " + turn, x.told(leg, 4), due);
                }
            }
        }
        x.set(3, 0, 1);
        Due.is("leg 3 at turn 7: way 13 modulo 8", x.told(3, 4), 18);
        Due.is("leg 0 at turn 7: way 7", x.told(0, 4), 20);
        Due.is("leg 1 at turn 7: way 9 modulo 8", x.told(1, 4), 36);
    }

    /** "A CELL beyond THE FLOOR counts as the nearest one (y, x held within 0 .. 7)." Legs 0 .. 3 at turns 0 and 1. */
    private static void beyondTheFloor() {
        legsStandOn(0, 1, 0, 1, 8, 0, 0);
        legsStandOn(0, 1, 1, 9, 8, 0, 1);
        legsStandOn(7, 1, 0, 7, 15, 6, 7);
        legsStandOn(7, 1, 1, 15, 14, 6, 7);
        legsStandOn(56, 1, 0, 57, 56, 56, 48);
        legsStandOn(56, 1, 1, 57, 56, 48, 49);
        legsStandOn(63, 1, 0, 63, 63, 62, 55);
        legsStandOn(63, 1, 1, 63, 62, 54, 55);
        legsStandOn(9, 1, 1, 18, 16, 0, 2);
        legsStandOn(9, 2, 1, 27, 24, 0, 3);
        legsStandOn(9, 3, 1, 36, 32, 0, 4);
        legsStandOn(54, 1, 1, 63, 61, 45, 47);
        legsStandOn(54, 2, 1, 63, 60, 36, 39);
        legsStandOn(54, 3, 1, 63, 59, 27, 31);
        legsStandOn(36, 3, 1, 63, 57, 9, 15);
        legsStandOn(37, 3, 1, 63, 58, 10, 15);
        legsStandOn(44, 3, 1, 63, 57, 17, 23);
        legsStandOn(27, 3, 1, 54, 48, 0, 6);
        legsStandOn(26, 3, 1, 53, 48, 0, 5);
        legsStandOn(19, 3, 1, 46, 40, 0, 6);
        legsStandOn(0, 3, 0, 3, 24, 0, 0);
        legsStandOn(63, 3, 0, 63, 63, 60, 39);
        legsStandOn(60, 3, 0, 63, 60, 57, 36);
        legsStandOn(61, 3, 0, 63, 61, 58, 37);
        legsStandOn(59, 3, 0, 62, 59, 56, 35);
        legsStandOn(58, 3, 0, 61, 58, 56, 34);
        TableRocks x = new TableRocks();
        x.floor(0, 7);
        x.set(2, 0, 0);
        Due.is("leg 2 stands at the nearest cell's height", x.told(2, 5), 57);
        Due.is("leg 3 stands at the nearest cell's height", x.told(3, 5), 57);
        Due.is("the gap: 7 of leg 2, less 7 of leg 3", x.stands(0), 0);
    }

    private static void legsStandOn(int place, int radius, int turn, int... cells) {
        TableRocks x = new TableRocks();
        x.set(2, 0, place);
        x.set(3, 0, radius);
        x.set(4, 0, turn);
        for (int leg = 0; leg <= 3; leg++) {
            String call = "place " + place + " radius " + radius + " turn " + turn + ": cell of leg " + leg;
            Due.is(call, x.told(leg, 4), cells[leg]);
        }
    }

    /** "TALL (under a LOAD w): LEG: LONG;" */
    private static void tallLeg() {
        tall(0, 0, 0, 0, 0);
        tall(0, 9, 9, 0, 0);
        tall(0, 9, 9, 99, 99);
        tall(0, 9, 9, 1, 1);
    }

    /** "FELT: NUMBER more than a LEG, less half (cut) of w;" */
    private static void tallFelt() {
        int[] byLoad = {27, 27, 26, 26, 25, 25, 24, 24, 23, 23};
        for (int load = 0; load <= 9; load++) {
            tall(1, 7, load, 20, byLoad[load]);
        }
        tall(1, 0, 0, 20, 20);
        tall(1, 9, 0, 99, 108);
    }

    /** "SCREW: 3 times NUMBER more than a LEG;" */
    private static void tallScrew() {
        tall(2, 0, 9, 20, 20);
        tall(2, 1, 9, 20, 23);
        tall(2, 9, 9, 20, 47);
        tall(2, 9, 0, 99, 126);
        tall(2, 0, 9, 0, 0);
    }

    /** "WORN: half (cut) of a FELT's;" */
    private static void tallWorn() {
        int[] byLoad = {13, 13, 13, 13, 12, 12, 12, 12, 11, 11};
        for (int load = 0; load <= 9; load++) {
            tall(3, 7, load, 20, byLoad[load]);
        }
        tall(3, 0, 0, 20, 10);
        tall(3, 9, 0, 99, 54);
        tall(3, 8, 0, 99, 53);
    }

    /** "CASTER: 2 more than a SCREW;" */
    private static void tallCaster() {
        tall(4, 0, 9, 0, 2);
        tall(4, 1, 9, 20, 25);
        tall(4, 9, 0, 99, 128);
    }

    /** "SPRUNG: w times NUMBER less than a LEG." */
    private static void tallSprung() {
        tall(5, 0, 9, 20, 20);
        tall(5, 9, 0, 20, 20);
        tall(5, 1, 1, 20, 19);
        tall(5, 3, 5, 20, 5);
        tall(5, 9, 9, 99, 18);
    }

    /** "(TALL, GIVES 0 at least, in the end.)" */
    private static void tallAtLeast() {
        tall(1, 2, 2, 0, 1);
        tall(1, 1, 2, 0, 0);
        tall(1, 0, 2, 0, 0);
        tall(1, 0, 9, 0, 0);
        tall(3, 6, 9, 0, 1);
        tall(3, 5, 9, 0, 0);
        tall(3, 3, 9, 0, 0);
        tall(3, 2, 9, 0, 0);
        tall(3, 0, 9, 0, 0);
        tall(5, 9, 9, 82, 1);
        tall(5, 9, 9, 81, 0);
        tall(5, 9, 9, 80, 0);
        tall(5, 9, 9, 0, 0);
        gives(1, 0, 1, 0);
        gives(5, 0, 1, 0);
        gives(3, 0, 1, 1);
    }

    /** Of each leg: it shows itself alone, and by what it stands at. */
    private static void tall(int kind, int number, int load, int length, int want) {
        TableRocks x = new TableRocks();
        x.wave(0, 0, 0);
        x.set(5, 0, load);
        for (int leg = 0; leg <= 3; leg++) {
            x.leg(leg, kind, number);
            x.set(0, leg, length);
            x.floor(x.told(leg, 4), 4);
            String call = "kind " + kind + " number " + number + " load " + load + " long " + length;
            Due.is("tall, " + call, x.told(leg, 3), want);
            Due.is("stands at, " + call, x.told(leg, 5), want + 4);
        }
    }

    /** "GIVES (so much it gives way, if a gap g is beneath it): LEG: 0;" */
    private static void givesLeg() {
        gives(0, 0, 1, 0);
        gives(0, 9, 1, 0);
        gives(0, 9, 20, 0);
    }

    /** "FELT: half (cut) of g, or NUMBER, the lesser;" */
    private static void givesFelt() {
        int[] byGap = {0, 0, 1, 1, 2, 2, 3, 3, 3, 3};
        for (int gap = 1; gap <= 9; gap++) {
            gives(1, 3, gap, byGap[gap]);
        }
        gives(1, 0, 20, 0);
        gives(1, 9, 17, 8);
        gives(1, 9, 18, 9);
        gives(1, 9, 20, 9);
    }

    /** "SCREW as a LEG;" */
    private static void givesScrew() {
        gives(2, 9, 1, 0);
        gives(2, 9, 40, 0);
    }

    /** "WORN: 1 more than a FELT;" */
    private static void givesWorn() {
        int[] byGap = {0, 1, 2, 2, 3, 3, 4, 4, 4, 4};
        for (int gap = 1; gap <= 9; gap++) {
            gives(3, 3, gap, byGap[gap]);
        }
        gives(3, 0, 20, 1);
        gives(3, 9, 18, 10);
        gives(3, 9, 40, 10);
    }

    /** "CASTER as a SCREW;" */
    private static void givesCaster() {
        gives(4, 9, 1, 0);
        gives(4, 9, 40, 0);
    }

    /** "SPRUNG: g, or NUMBER, the lesser." */
    private static void givesSprung() {
        int[] byGap = {0, 1, 2, 3, 3, 3};
        for (int gap = 1; gap <= 5; gap++) {
            gives(5, 3, gap, byGap[gap]);
        }
        gives(5, 0, 20, 0);
        gives(5, 9, 8, 8);
        gives(5, 9, 9, 9);
        gives(5, 9, 10, 9);
    }

    /** Leg 1 is a loose one with the gap told beneath it; then leg 3, leg 0, leg 2 likewise. */
    private static void gives(int kind, int number, int gap, int give) {
        int[] cells = {28, 35, 26, 19};
        for (int leg = 0; leg <= 3; leg++) {
            TableRocks x = Due.ruled("slack0;worth give;spills rock;");
            x.leg(leg, kind, number);
            int tall = x.told(leg, 3);
            x.floor(cells[leg], Math.max(0, 50 - tall));
            x.floor(cells[(leg + 1) % 4], Math.max(0, tall - 50) + gap);
            String call = "kind " + kind + " number " + number + " gap " + gap + " leg " + leg;
            Due.is("gap, " + call, x.stands(0), leg % 2 == 1 ? gap : -gap);
            Due.is("give, " + call, x.stands(4), give);
            Due.is("rock, " + call, x.stands(5), Math.max(0, gap - give));
        }
    }
}
