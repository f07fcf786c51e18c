/** Promises 16 to 29. */
public final class DoneTest {
    private static final int NO_SUCH = -100000;

    public static void main(String[] args) {
        promise16Turn();
        promise17Wedge();
        promise18Saw();
        promise19Screwed();
        promise20Blame();
        promise21Beside();
        promise22Sit();
        promise23Judge();
        promise24Which();
        promise25Drawn();
        promise26Odds();
        promise27And28ImageAndBack();
        promise29Count();
        Due.end("DoneTest");
    }

    private static void promise16Turn() {
        TableRocks x = new TableRocks();
        x.floor(28, 7);
        int[][] steps = {{1, 0, 1}, {-1, 7, 0}, {-2, 7, 6}, {7, 0, 5}, {0, 0, 5}, {-7, 7, 6}, {3, 0, 1}};
        for (int[] s : steps) {
            Due.is("turn(" + s[0] + ")", x.turn(s[0]), s[1]);
            Due.is("count(2)", x.count(2), s[2]);
        }
        Due.is("turn(8)", x.turn(8), TableRocks.BAD);
        Due.is("turn(-8)", x.turn(-8), TableRocks.BAD);
        Due.is("turn(least)", x.turn(Integer.MIN_VALUE), TableRocks.BAD);
        Due.is("count(2)", x.count(2), 1);
    }

    private static void promise17Wedge() {
        TableRocks x = Due.uneven(7, 3, 1, 0);
        Due.is("wedge()", x.wedge(), 5);
        Due.is("height of cell 35", x.told(35, 6), 8);
        Due.is("rock", x.stands(1), 0);
        Due.is("wedge(), firm", x.wedge(), TableRocks.STATE);
        x = Due.uneven(1, 9, 2, 4);
        Due.is("wedge()", x.wedge(), 10);
        Due.is("height of cell 28", x.told(28, 6), 11);
        x = Due.uneven(99, 95, 99, 0);
        Due.is("wedge(), bounded", x.wedge(), 103);
        Due.is("height of cell 35", x.told(35, 6), 99);
        Due.is("wedge(), bounded", x.wedge(), 99);
        Due.is("height of cell 35", x.told(35, 6), 99);
        x = new TableRocks();
        x.floor(28, 9);
        x.leg(3, 5, 4);
        Due.is("wedge(), less what gives", x.wedge(), 5);
        Due.is("height of cell 35", x.told(35, 6), 5);
        Due.is("gap", x.stands(0), 4);
        x = Due.ruled("slack 9;worth 0;spills 0;");
        x.floor(28, 9);
        Due.is("wedge(), firm by slack", x.wedge(), TableRocks.STATE);
        Due.is("height of cell 35", x.told(35, 6), 0);
    }

    private static void promise18Saw() {
        TableRocks x = Due.uneven(7, 3, 1, 0);
        sawSo(x, 0, 48, 50, 47, 50);
        Due.is("saw(), firm", x.saw(), TableRocks.STATE);
        x = Due.uneven(1, 9, 2, 4);
        sawSo(x, 0, 50, 45, 50, 45);
        x = new TableRocks();
        x.floor(28, 99);
        x.set(0, 0, 1);
        sawSo(x, 24, 0, 50, 25, 50);
        sawSo(x, 12, 0, 50, 13, 50);
        x = new TableRocks();
        x.floor(28, 1);
        sawSo(x, 0, 50, 50, 49, 50);
        x = new TableRocks();
        x.floor(28, 9);
        x.leg(3, 5, 4);
        sawSo(x, 0, 48, 50, 47, 50);
        x = Due.ruled("slack 9;worth 0;spills 0;");
        x.floor(28, 9);
        Due.is("saw(), firm by slack", x.saw(), TableRocks.STATE);
        Due.is("long", x.told(2, 1), 50);
    }

    private static void sawSo(TableRocks x, int rock, int... longs) {
        Due.is("saw()", x.saw(), rock);
        for (int leg = 0; leg < longs.length; leg++) {
            Due.is("long of leg " + leg, x.told(leg, 1), longs[leg]);
        }
    }

    private static void promise19Screwed() {
        int[] oneScrew = {0, -1, -1, 1, -1, -1, 2, -1, -1, 3, -1, -1, -1, -1, -1, -1};
        int[] twoScrews = {0, -1, -1, 1, -1, -1, 2, -1, -1, 3, -1, -1, 4, -1, -1, -1};
        for (int gap = 0; gap < oneScrew.length; gap++) {
            screwedSo(screws(2, 5, 0, 0), gap, oneScrew[gap]);
            screwedSo(screws(4, 5, 0, 0), gap, oneScrew[gap]);
            screwedSo(screws(2, 5, 4, 5), gap, twoScrews[gap]);
            screwedSo(screws(2, 8, 2, 6), gap, twoScrews[gap]);
        }
        screwedSo(screws(2, 9, 0, 0), 3, -1);
        screwedSo(screws(2, 8, 0, 0), 3, 1);
        screwedSo(screws(2, 8, 0, 0), 6, -1);
        screwedSo(screws(1, 5, 5, 2), 14, -1);
        screwedSo(screws(3, 5, 0, 0), 14, -1);
        int[] less = {-1, 1, 2, 3, 3};
        for (int number = 0; number < less.length; number++) {
            TableRocks x = new TableRocks();
            x.leg(0, 2, number);
            x.floor(28, 3 * Math.max(1, Math.min(3, number)));
            x.set(0, 0, 50 - 3 * number);
            Due.is("screwed() downward from " + number, x.screwed(), less[number]);
            Due.is("number", x.told(0, 2), number);
        }
        TableRocks x = new TableRocks();
        x.leg(0, 2, 5);
        x.leg(1, 4, 5);
        x.set(0, 0, 35);
        x.set(0, 1, 33);
        x.floor(28, 12);
        Due.is("screwed() both ways", x.screwed(), 4);
        x.floor(28, 15);
        Due.is("screwed() by 5", x.screwed(), -1);
    }

    /** Legs 1 and 3 are as tall as the others, whatever kinds and numbers they have. */
    private static TableRocks screws(int kind, int number, int otherKind, int otherNumber) {
        TableRocks x = new TableRocks();
        x.leg(1, kind, number);
        x.leg(3, otherKind, otherNumber);
        for (int leg = 1; leg < 4; leg += 2) {
            x.set(0, leg, x.told(leg, 0) == 3 ? 95 : 50 - (x.told(leg, 3) - 50));
        }
        return x;
    }

    private static void screwedSo(TableRocks x, int gap, int due) {
        x.floor(28, gap);
        Due.is("gap", x.stands(0), gap);
        int one = x.told(1, 2);
        int three = x.told(3, 2);
        Due.is("screwed() by gap " + gap, x.screwed(), due);
        Due.is("number of leg 1", x.told(1, 2), one);
        Due.is("number of leg 3", x.told(3, 2), three);
    }

    private static void promise20Blame() {
        blameSo(55, 7, 0, 5, 7);
        blameSo(45, 7, 0, -5, 7);
        blameSo(50, 7, 2, 0, -7);
        blameSo(47, 6, 2, -3, -6);
        blameSo(55, 7, 6, 5, -7);
        blameSo(55, 7, 7, 5, 0);
        TableRocks x = new TableRocks();
        Due.is("blame(-1)", x.blame(-1), NO_SUCH);
        Due.is("blame(2)", x.blame(2), NO_SUCH);
    }

    private static void blameSo(int length, int height, int turn, int ofTable, int ofFloor) {
        TableRocks x = new TableRocks();
        x.set(0, 0, length);
        x.floor(28, height);
        x.set(4, 0, turn);
        Due.is("blame(0)", x.blame(0), ofTable);
        Due.is("blame(1)", x.blame(1), ofFloor);
        Due.is("the turn stays", x.count(2), turn);
    }

    private static void promise21Beside() {
        TableRocks x = new TableRocks();
        besideSo(x, 27, 1, 0, 0);
        besideSo(x, 27, 3, -1, -1);
        besideSo(x, 0, 3, 7, 0);
        besideSo(x, 0, 2, 5, 0);
        besideSo(x, 0, 1, 3, 0);
        besideSo(x, 18, 1, 5, 0);
        besideSo(x, 17, 1, 4, 0);
        besideSo(x, 7, 3, 0, 0);
        besideSo(x, 35, 2, -1, -1);
        besideSo(x, 42, 2, 0, 0);
        x.floor(1, 5);
        besideSo(x, 27, 1, 1, 1);
        besideSo(x, 42, 2, 0, 0);
        besideSo(x, 0, 1, 3, 0);
        x.set(0, 0, 60);
        besideSo(x, 0, 1, -1, -1);
        Due.is("beside(-1)", x.beside(-1), TableRocks.BAD);
        Due.is("beside(2)", x.beside(2), TableRocks.BAD);
        Due.is("it stays at its place", x.count(0), 0);
        Due.is("it stays turned", x.count(2), 0);
    }

    private static void besideSo(TableRocks x, int place, int radius, int besidePlace, int besideTurn) {
        x.set(2, 0, place);
        x.set(3, 0, radius);
        Due.is("beside(0) from " + place + " by " + radius, x.beside(0), besidePlace);
        Due.is("beside(1) from " + place + " by " + radius, x.beside(1), besideTurn);
    }

    private static void promise22Sit() {
        sitSo(5, 1, 59, 0, 9);
        sitSo(5, 1, 59, 4, 5);
        sitSo(5, 1, 59, 9, 0);
        sitSo(5, 1, 60, 0, -1);
        sitSo(5, 1, 60, 4, -1);
        sitSo(5, 1, 50, 0, 0);
        sitSo(5, 1, 50, 1, 0);
        sitSo(5, 1, 50, 2, -1);
        sitSo(5, 3, 59, 0, 3);
        sitSo(5, 3, 59, 4, 0);
        sitSo(5, 3, 59, 5, -1);
        sitSo(1, 3, 50, 0, 6);
        sitSo(1, 3, 50, 7, 0);
        sitSo(0, 3, 51, 0, -1);
    }

    private static void sitSo(int kind, int number, int length, int load, int due) {
        TableRocks x = new TableRocks();
        x.leg(0, kind, number);
        x.set(0, 0, length);
        x.set(5, 0, load);
        Due.is("sit() from load " + load, x.sit(), due);
        Due.is("the load stays", x.count(3), load);
    }

    private static void promise23Judge() {
        TableRocks x = new TableRocks();
        Due.is("judge(-1)", x.judge(-1), TableRocks.BAD);
        Due.is("judge(4)", x.judge(4), TableRocks.BAD);
        Due.is("judge(3)", x.judge(3), -11);
        x.floor(28, 7);
        judgeSo(x, 0, 2, TableRocks.NONE, 1, 0, 2, 0, 1, 0, 2, 0, 1, 0, 2);
        judgeSo(x, 0, 0, 10, 1, 0, 2, 0, 1, 0, 2, 0, 1, 0, 0);
        judgeSo(x, 0, 1, 3, 1, 0, 2, 1, 1);
        judgeSo(x, 0, 2, 0, 257, 0, 2);
        judgeSo(x, 0, 0, TableRocks.NONE, 257, 256, 2);
        judgeSo(x, 0, 1, 1, 1, -1, 2);
        judgeSo(x, 3, 2, TableRocks.NONE, 0, 1, 0, 2, 0, 1);
        judgeSo(x, 3, 2, 0, 2);
        judgeSo(x, 6, 2, TableRocks.NONE, 2, 0, 1);
        judgeSo(x, 6, 2, TableRocks.NONE);
        x.floor(28, 1);
        judgeSo(x, 6, 2, TableRocks.NONE, 2, 0, 1);
        Due.is("the turn stays", x.count(2), 6);
        x = Due.ruled("slack 7;worth 0;spills 0;");
        x.floor(28, 7);
        judgeSo(x, 0, 2, TableRocks.NONE, 0, 0, 0);
    }

    private static void judgeSo(TableRocks x, int turn, int sort, int due, int... knocks) {
        x.set(4, 0, turn);
        Due.fill(x, 1, sort, knocks);
        Due.is("judge(1) at turn " + turn, x.judge(1), due);
    }

    private static void promise24Which() {
        TableRocks x = new TableRocks();
        Due.is("which(-1)", x.which(-1), TableRocks.NO);
        Due.is("which(4)", x.which(4), TableRocks.NO);
        Due.is("which(0), missing", x.which(0), TableRocks.NO);
        x.floor(28, 7);
        whichSo(x, 0, 1L << 27 | 1L << 29, 1);
        whichSo(x, 0, 1L << 27 | 1L << 29, 1, 0, 2, 0, 1, 0, 2, 0, 1);
        whichSo(x, 0, 1L << 20 | 1L << 36, 2);
        whichSo(x, 0, 0, 1, 0, 1);
        whichSo(x, 1, 1L << 19 | 1L << 37, 1);
        whichSo(x, 1, 1L << 21 | 1L << 35, 2);
        whichSo(x, 1, -1L);
        whichSo(x, 0, 0, 3);
        x.floor(28, 0);
        whichSo(x, 0, -1L, 0, 0, 0);
        x.floor(62, 7);
        whichSo(x, 0, 1L << 63 | 1L << 61, 1);
        Due.is("it stays at its place", x.count(0), 27);
        Due.is("it stays turned", x.count(2), 0);
    }

    private static void whichSo(TableRocks x, int turn, long due, int... knocks) {
        x.set(4, 0, turn);
        Due.fill(x, 2, 1, knocks);
        Due.is("which(2) at turn " + turn, x.which(2), due);
    }

    /** Seeds with the place and turn that are drawn by them. */
    private static final int[][] DRAWN = {{0, 48, 5}, {1, 62, 4}, {2, 13, 2}, {7, 21, 3}, {-1, 33, 7},
        {-77, 25, 1}, {Integer.MAX_VALUE, 33, 7}, {Integer.MIN_VALUE, 48, 5}, {123456789, 40, 5}};

    private static void promise25Drawn() {
        for (int[] d : DRAWN) {
            String spot = "y*8+x=" + d[1] + " and turn=" + d[2];
            TableRocks x = Due.ruled("slack 9*(" + spot + ");worth 0;spills 0;");
            x.set(0, 0, 59);
            Due.is("drawn(" + d[0] + ")", x.drawn(d[0]), 0);
        }
        TableRocks x = Due.ruled("slack 9-9*(y*8+x=48 and turn=5);worth 0;spills 0;");
        x.set(0, 0, 59);
        Due.is("drawn(0)", x.drawn(0), 9);
        Due.is("drawn(1)", x.drawn(1), 0);
        Due.is("it stays at its place", x.count(0), 27);
        Due.is("it stays turned", x.count(2), 0);
    }

    private static void promise26Odds() {
        TableRocks x = Due.ruled("slack 9*(turn<4);worth 0;spills 0;");
        x.set(0, 0, 59);
        oddsSo(x, 0, 30, 7, 15);
        oddsSo(x, 0, 12, 1, 2);
        oddsSo(x, 5, 20, 9, 20);
        oddsSo(x, Integer.MAX_VALUE - 2, 9, 5, 9);
        oddsSo(x, -4, 8, 5, 8);
        oddsSo(x, 0, 1, 0, 1);
        oddsSo(x, 2, 1, 1, 1);
        x = new TableRocks();
        oddsSo(x, 99, 30, 1, 1);
        x.set(0, 0, 59);
        oddsSo(x, 99, 30, 0, 1);
        Due.is("odds(0, 0, 0)", x.odds(0, 0, 0), TableRocks.NO);
        Due.is("odds(0, 31, 0)", x.odds(0, 31, 0), TableRocks.NO);
        Due.is("odds(0, -1, 1)", x.odds(0, -1, 1), TableRocks.NO);
        Due.is("odds(0, 1, -1)", x.odds(0, 1, -1), TableRocks.NO);
        Due.is("odds(0, 1, 2)", x.odds(0, 1, 2), TableRocks.NO);
    }

    private static void oddsSo(TableRocks x, int seed, int n, int above, int below) {
        Due.is("odds(" + seed + ", " + n + ", 0)", x.odds(seed, n, 0), above);
        Due.is("odds(" + seed + ", " + n + ", 1)", x.odds(seed, n, 1), below);
    }

    private static void promise27And28ImageAndBack() {
        TableRocks x = new TableRocks();
        Due.is("back(), no image", x.back(), TableRocks.STATE);
        Due.text(x, "slack 1;worth 2;spills 3;");
        x.wave(3, 5, 7);
        x.leg(2, 4, 6);
        int[] first = {1, 2, 30, 2, 5, 7};
        int[] then = {0, 4, 40, 1, 3, 2};
        become(x, first);
        Due.is("image()", x.image(), 5);
        x.wave(0, 0, 0);
        x.leg(2, 3, 1);
        become(x, then);
        Due.text(x, "slack 1;worth 2;spills 4;");
        Due.feed(x, "slack");
        Due.fill(x, 0, 2, 77);
        Due.is("back()", x.back(), 5);
        isLike(x, first);
        Due.is("kind stays", x.told(2, 0), 3);
        Due.is("number", x.told(2, 2), 6);
        Due.is("height", x.told(63, 6), (7 * 3 + 7 * 5 + 49 * 7) % 100);
        Due.is("texts stay", x.count(4), 3);
        Due.is("the tape stays", x.count(5), 5);
        Due.is("sheets stay", x.judge(0), 0);
        become(x, then);
        x.floor(63, 1);
        Due.is("image(), the second", x.image(), 3);
        become(x, first);
        x.floor(63, 2);
        Due.is("back()", x.back(), 3);
        isLike(x, then);
        Due.is("height", x.told(63, 6), 1);
        become(x, first);
        Due.is("back() once more", x.back(), 3);
        isLike(x, then);
    }

    /** The rule, the number of a leg, its long (and the place), the radius, the turn, the load. */
    private static void become(TableRocks x, int[] state) {
        x.force(state[0]);
        for (int leg = 0; leg < 4; leg++) {
            if (leg != 2) {
                x.set(1, leg, state[1] + leg);
            }
            x.set(0, leg, state[2] + leg);
        }
        x.set(2, 0, state[2]);
        x.set(3, 0, state[3]);
        x.set(4, 0, state[4]);
        x.set(5, 0, state[5]);
    }

    private static void isLike(TableRocks x, int[] state) {
        Due.is("the rule", x.count(6), state[0]);
        for (int leg = 0; leg < 4; leg++) {
            if (leg != 2) {
                Due.is("number", x.told(leg, 2), state[1] + leg);
            }
            Due.is("long", x.told(leg, 1), state[2] + leg);
        }
        Due.is("place", x.count(0), state[2]);
        Due.is("radius", x.count(1), state[3]);
        Due.is("turn", x.count(2), state[4]);
        Due.is("load", x.count(3), state[5]);
    }

    private static void promise29Count() {
        TableRocks x = new TableRocks();
        Due.text(x, "slack 1;worth 2;spills 3;");
        Due.feed(x, "abc");
        become(x, new int[] {1, 4, 40, 2, 5, 7});
        int[] due = {40, 2, 5, 7, 2, 3, 1};
        for (int what = 0; what < due.length; what++) {
            Due.is("count(" + what + ")", x.count(what), due[what]);
        }
        Due.is("count(-1)", x.count(-1), TableRocks.BAD);
        Due.is("count(7)", x.count(7), TableRocks.BAD);
    }
}
