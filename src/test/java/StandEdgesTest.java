/**
 * The edges that 'Terms' names in its part 2, how THE TABLE stands and what is done: a test for each sentence, which
 * stands in quotes ahead of it.
 */
public final class StandEdgesTest {
    private static final int NONE = TableRocks.NONE;
    private static final int STATE = TableRocks.STATE;

    public static void main(String[] args) {
        standsAt();
        gap();
        loose();
        size();
        rockLessGives();
        eachBySize();
        rockBySlack();
        firm();
        leanOfGap();
        leanOfNoGap();
        atTurnAndPlace();
        turnsInBits();
        fewest();
        fewestRound();
        fewestUpward();
        fewestNone();
        byFeeling();
        byFeelingLastCounted();
        byFeelingSamePair();
        byFeelingEight();
        best();
        bestOfLikeOnes();
        wedge();
        wedgeLesserNumber();
        wedgeBound();
        saw();
        sawAtLeast();
        screwedLeastSum();
        screwedEach();
        screwedWithin();
        screwedKinds();
        screwedNone();
        blame();
        besideFar();
        besideLeast();
        besideNone();
        sit();
        sitNone();
        judged();
        judgedRound();
        which();
        drawn();
        oddsOf();
        image();
        Due.end("StandEdgesTest");
    }

    /** "A LEG STANDS AT HEIGHT of its CELL and TALL, together." No bound is told. */
    private static void standsAt() {
        TableRocks x = new TableRocks();
        Due.is("leg 0 stands at", x.told(0, 5), 50);
        x.leg(0, 4, 9);
        x.set(0, 0, 99);
        x.floor(28, 99);
        Due.is("tall", x.told(0, 3), 128);
        Due.is("leg 0 stands at", x.told(0, 5), 227);
        x.set(0, 1, 0);
        Due.is("leg 1 stands at", x.told(1, 5), 0);
        x.floor(35, 1);
        Due.is("leg 1 stands at", x.told(1, 5), 1);
    }

    /** All four as far apart as can be, legs 0 and 2 the higher ones, or 1 and 3. */
    private static TableRocks farApart(int higher) {
        TableRocks x = new TableRocks();
        for (int leg = 0; leg <= 3; leg++) {
            boolean isHigh = leg % 2 == higher;
            x.leg(leg, 4, isHigh ? 9 : 0);
            x.set(0, leg, isHigh ? 99 : 0);
            x.floor(x.told(leg, 4), isHigh ? 99 : 0);
        }
        return x;
    }

    /** "THE GAP: what LEGS 0 and 2 STAND AT together, less what LEGS 1 and 3 do." */
    private static void gap() {
        Due.is("gap", Due.uneven(0, 0, 0, 0).stands(0), 0);
        Due.is("gap", Due.uneven(1, 0, 0, 0).stands(0), 1);
        Due.is("gap", Due.uneven(0, 1, 0, 0).stands(0), -1);
        Due.is("gap", Due.uneven(0, 0, 1, 0).stands(0), 1);
        Due.is("gap", Due.uneven(0, 0, 0, 1).stands(0), -1);
        Due.is("gap", Due.uneven(40, 30, 20, 11).stands(0), 19);
        Due.is("gap", farApart(0).stands(0), 450);
        Due.is("gap", farApart(1).stands(0), -450);
    }

    /**
     * "If it is above 0, LEGS 0 and 2 bear THE TABLE, if it is below 0, LEGS 1 and 3; the other two are LOOSE (THE GAP
     * 0: none is)."
     */
    private static void loose() {
        Due.is("loose by 1", Due.uneven(1, 0, 0, 0).stands(3), 2 + 8);
        Due.is("loose by -1", Due.uneven(0, 1, 0, 0).stands(3), 1 + 4);
        Due.is("loose by 0", Due.uneven(0, 0, 0, 0).stands(3), 0);
        Due.is("loose by 0", Due.uneven(3, 1, 2, 4).stands(3), 0);
        Due.is("loose by 450", farApart(0).stands(3), 2 + 8);
        Due.is("loose by -450", farApart(1).stands(3), 1 + 4);
    }

    /** "SIZE of THE GAP: without its sign." */
    private static void size() {
        Due.is("rock by 1", Due.uneven(1, 0, 0, 0).stands(1), 1);
        Due.is("rock by -1", Due.uneven(0, 1, 0, 0).stands(1), 1);
        Due.is("rock by 450", farApart(0).stands(1), 450);
        Due.is("rock by -450", farApart(1).stands(1), 450);
    }

    /** "ROCK: SIZE less GIVES of both LOOSE LEGS" "0 at least;" */
    private static void rockLessGives() {
        rockSo(4, 1, 2, 1);
        rockSo(4, 2, 2, 0);
        rockSo(4, 2, 3, 0);
        rockSo(4, 4, 4, 0);
        rockSo(5, 0, 4, 1);
        rockSo(5, 4, 0, 1);
        rockSo(5, 0, 5, 0);
        rockSo(19, 9, 9, 1);
        rockSo(18, 9, 9, 0);
        rockSo(17, 9, 9, 0);
    }

    /** Both loose legs are sprung ones, those that bear are worn ones, which give nothing. */
    private static void rockSo(int size, int one, int other, int rock) {
        for (int lesser = 0; lesser <= 1; lesser++) {
            TableRocks x = new TableRocks();
            x.leg(lesser, 5, one);
            x.leg(lesser + 2, 5, other);
            x.leg(1 - lesser, 3, 0);
            x.leg(3 - lesser, 3, 0);
            x.floor(x.told(1 - lesser, 4), 25 + size);
            x.floor(x.told(3 - lesser, 4), 25);
            Due.is("gap", x.stands(0), lesser == 1 ? size : -size);
            Due.is("rock by " + size + " less " + one + " and " + other, x.stands(1), rock);
        }
    }

    /** "(each by SIZE)," Two felts that may give much: each gives half of all THE GAP. */
    private static void eachBySize() {
        int[] rockBySize = {0, 1, 0, 1, 0, 1, 0, 1, 0, 1};
        for (int size = 1; size <= 9; size++) {
            TableRocks x = new TableRocks();
            x.leg(1, 1, 5);
            x.leg(3, 1, 5);
            x.set(0, 1, 45);
            x.set(0, 3, 45);
            x.floor(28, size);
            Due.is("gap", x.stands(0), size);
            Due.is("rock by two felts", x.stands(1), rockBySize[size]);
        }
    }

    /** "but 0, if SIZE is no more than slack." */
    private static void rockBySlack() {
        for (int cell : new int[] {28, 35}) {
            TableRocks x = Due.ruled("slack 6;worth rock;spills rock;");
            x.leg(1, 5, 2);
            x.leg(0, 5, 2);
            int[] rockByHeight = {0, 0, 0, 0, 0, 0, 0, 5, 6, 7};
            for (int height = 0; height <= 9; height++) {
                x.floor(cell, height);
                Due.is("rock by " + height, x.stands(1), rockByHeight[height]);
                Due.is("rock of worth by " + height, x.stands(4), rockByHeight[height]);
                Due.is("rock of spills by " + height, x.stands(5), rockByHeight[height]);
                Due.is("the gap stays", x.stands(0), cell == 28 ? height : -height);
            }
        }
    }

    /** "FIRM: ROCK is 0." By no gap, by what gives, by slack; not by a rock of 1. */
    private static void firm() {
        Due.is("firm by gap 0", new TableRocks().firm(), 255);
        TableRocks x = new TableRocks();
        x.set(0, 0, 51);
        Due.is("firm by rock 1", x.firm(), 0);
        x.leg(1, 3, 0);
        x.set(0, 1, 99);
        x.set(0, 0, 50);
        Due.is("gap", x.stands(0), 1);
        Due.is("firm by what gives", x.firm(), 255);
        x = Due.ruled("slack 1;worth 0;spills 0;");
        x.set(0, 0, 51);
        Due.is("firm by slack", x.firm(), 255);
        x.set(0, 0, 52);
        Due.is("firm by too little slack", x.firm(), 0);
    }

    /**
     * "LEAN: of four numbers the greatest less the least: what the two that bear it STAND AT; what the LOOSE LEG of the
     * lesser number STANDS AT; and, of the other LOOSE one, the sum of the two that bear it less that."
     */
    private static void leanOfGap() {
        leanSo(0, 5, 5, 5, 0);
        leanSo(0, 5, 5, 0, 5);
        leanSo(10, 0, 5, 5, 5);
        leanSo(10, 5, 0, 5, 5);
        leanSo(8, 5, 9, 5, 0);
        leanSo(10, 9, 0, 1, 0);
        leanSo(6, 7, 3, 1, 0);
        leanSo(11, 1, 9, 2, 4);
        leanSo(99, 99, 0, 0, 0);
        leanSo(198, 99, 0, 99, 0);
        leanSo(198, 0, 99, 0, 99);
        leanSo(1, 1, 0, 0, 0);
        leanSo(2, 1, 0, 1, 0);
        leanSo(0, 1, 1, 1, 0);
        leanSo(1, 0, 1, 0, 0);
    }

    /** "(THE GAP 0: what all four STAND AT.)" */
    private static void leanOfNoGap() {
        leanSo(0, 0, 0, 0, 0);
        leanSo(0, 9, 9, 9, 9);
        leanSo(3, 3, 1, 2, 4);
        leanSo(9, 9, 9, 0, 0);
        leanSo(9, 0, 0, 9, 9);
        leanSo(9, 9, 0, 0, 9);
        leanSo(99, 0, 99, 99, 0);
    }

    private static void leanSo(int lean, int zero, int one, int two, int three) {
        TableRocks x = Due.uneven(zero, one, two, three);
        Due.is("lean of " + zero + " " + one + " " + two + " " + three, x.stands(2), lean);
    }

    /** "AT a TURN, a PLACE: as if THE TABLE stood there." */
    private static void atTurnAndPlace() {
        for (int place = 0; place <= 63; place++) {
            TableRocks x = new TableRocks();
            TableRocks there = new TableRocks();
            x.wave(37, 91, 58);
            there.wave(37, 91, 58);
            there.set(2, 0, place);
            for (int turn = 0; turn <= 7; turn++) {
                there.set(4, 0, turn);
                for (int what = 0; what <= 5; what++) {
                    Due.is("standsAt " + place + " " + turn, x.standsAt(place, turn, what), there.stands(what));
                }
            }
            Due.is("it stays at its place", x.count(0), 27);
            Due.is("it stays turned", x.count(2), 0);
        }
    }

    /** "TURNS at which it is FIRM (bits)." */
    private static void turnsInBits() {
        for (int turn = 0; turn <= 7; turn++) {
            Due.is("firm at " + turn, firmAt("turn=" + turn).firm(), 1 << turn);
            Due.is("firm but at " + turn, firmAt("not turn=" + turn).firm(), 255 - (1 << turn));
        }
        Due.is("firm at none", firmAt("0").firm(), 0);
        Due.is("firm at all", firmAt("1").firm(), 255);
        TableRocks x = firmAt("y*8+x=27 and turn=6");
        Due.is("firm here", x.firm(), 64);
        x.set(2, 0, 28);
        Due.is("firm elsewhere", x.firm(), 0);
    }

    /** Leg 0 is 9 too long everywhere, and it is firm where E is true. */
    private static TableRocks firmAt(String e) {
        TableRocks x = Due.ruled("slack 9*(0<(" + e + "));worth 0;spills 0;");
        x.set(0, 0, 59);
        return x;
    }

    /** "FEWEST: the fewest steps of TURN, upward or downward" "to one at which it is FIRM here;" */
    private static void fewest() {
        fewestSo("turn=3", 3, 0, 3);
        fewestSo("turn=3", 0, 3, 3);
        fewestSo("turn=3", 6, 3, 3);
        fewestSo("turn=3 or turn=5", 2, 1, 3);
        fewestSo("turn=1 or turn=5", 2, 1, 1);
        fewestSo("turn=1 or turn=6", 3, 2, 1);
        fewestSo("turn=1 or turn=6", 4, 2, 6);
        fewestSo("1", 5, 0, 5);
        fewestSo("y*8+x=27 and turn=2", 0, 2, 2);
        fewestSo("y*8+x=28 and turn=2", 0, NONE, NONE);
    }

    /** "(round)" */
    private static void fewestRound() {
        fewestSo("turn=7", 0, 1, 7);
        fewestSo("turn=6", 0, 2, 6);
        fewestSo("turn=5", 0, 3, 5);
        fewestSo("turn=4", 0, 4, 4);
        fewestSo("turn=0", 7, 1, 0);
        fewestSo("turn=1", 7, 2, 1);
        fewestSo("turn=2", 7, 3, 2);
        fewestSo("turn=3", 7, 4, 3);
        fewestSo("turn=2", 6, 4, 2);
        fewestSo("turn=0", 5, 3, 0);
    }

    /** "of like ones upward;" */
    private static void fewestUpward() {
        fewestSo("turn=1 or turn=7", 0, 1, 1);
        fewestSo("turn=2 or turn=6", 0, 2, 2);
        fewestSo("turn=3 or turn=5", 0, 3, 3);
        fewestSo("turn=6 or turn=0", 7, 1, 0);
        fewestSo("turn=2 or turn=4", 3, 1, 4);
        fewestSo("turn=0 or turn=4", 6, 2, 0);
    }

    /** "to one at which it is FIRM here; of like ones upward; NONE." */
    private static void fewestNone() {
        for (int turn = 0; turn <= 7; turn++) {
            fewestSo("0", turn, NONE, NONE);
        }
    }

    private static void fewestSo(String firm, int turn, int steps, int to) {
        TableRocks x = firmAt(firm);
        x.set(4, 0, turn);
        Due.is("fewest(0) from " + turn + " to " + firm, x.fewest(0), steps);
        Due.is("fewest(1) from " + turn + " to " + firm, x.fewest(1), to);
    }

    /** "BY FEELING: it is turned upward (in thought), step by step" "whether it is FIRM then." */
    private static void byFeeling() {
        feelsSo(firmAt("turn=3"), 3, 0, 1);
        feelsSo(firmAt("turn=3"), 2, 1, 1);
        feelsSo(firmAt("turn=3"), 5, 6, 1);
        feelsSo(firmAt("turn=3 or turn=2"), 1, 1, 1);
        feelsSo(firmAt("turn=7"), 0, 7, 1);
        feelsSo(firmAt("turn=0"), 7, 1, 1);
    }

    /** "(the last one counted)," */
    private static void byFeelingLastCounted() {
        feelsSo(firmAt("turn=1"), 0, 1, 1);
        TableRocks x = Due.uneven(7, 0, 0, 0);
        x.floor(34, 3);
        feelsSo(x, 0, 1, 0);
    }

    /** "as long as it isn't FIRM and the same pair bears it as at first," */
    private static void byFeelingSamePair() {
        TableRocks x = new TableRocks();
        x.set(0, 0, 59);
        x.floor(28, 10);
        feelsSo(x, 0, 2, 0);
        feelsSo(x, 1, 1, 0);
        feelsSo(x, 2, 1, 0);
        feelsSo(x, 3, 3, 0);
        x.floor(28, 9);
        feelsSo(x, 0, 2, 1);
        feelsSo(x, 3, 3, 1);
        x.floor(28, 8);
        feelsSo(x, 0, 8, 0);
        x.set(0, 0, 41);
        feelsSo(x, 0, 8, 0);
        x.floor(28, 10);
        feelsSo(x, 0, 1, 0);
        feelsSo(x, 1, 3, 0);
        feelsSo(x, 2, 2, 0);
    }

    /** "8 steps at most: how many steps;" */
    private static void byFeelingEight() {
        for (int turn = 0; turn <= 7; turn++) {
            feelsSo(firmAt("0"), turn, 8, 0);
            feelsSo(firmAt("turn=" + (turn + 7) % 8), turn, 7, 1);
        }
    }

    private static void feelsSo(TableRocks x, int turn, int steps, int firm) {
        x.set(4, 0, turn);
        Due.is("feels(0) from " + turn, x.feels(0), steps);
        Due.is("feels(1) from " + turn, x.feels(1), firm);
        Due.is("the turn stays", x.count(2), turn);
    }

    /** "BEST: of all 64 PLACES and 8 TURNS those of most worth;" */
    private static void best() {
        bestSo("y*8+x=0 and turn=0", 0, 0, 1);
        bestSo("y*8+x=0 and turn=1", 0, 1, 1);
        bestSo("y*8+x=1 and turn=0", 1, 0, 1);
        bestSo("y*8+x=63 and turn=7", 63, 7, 1);
        bestSo("y*8+x=0 and turn=7", 0, 7, 1);
        bestSo("y*8+x=63 and turn=0", 63, 0, 1);
        bestSo("y*8+x=27 and turn=1", 27, 1, 1);
        bestSo("(y*8+x)*8+turn", 63, 7, 511);
        bestSo("0-9999+(y*8+x=40)", 0, 0, -999);
        bestSo("0-999+(y*8+x=40)", 40, 0, -998);
    }

    /** "of like ones the least PLACE, then TURN." The worth of two is like, where the bound makes it so. */
    private static void bestOfLikeOnes() {
        bestSo("0", 0, 0, 0);
        bestSo("(y*8+x=1 and turn=7) or (y*8+x=2 and turn=0)", 1, 7, 1);
        bestSo("y*8+x=5 and (turn=2 or turn=6)", 5, 2, 1);
        bestSo("(y=7 and turn=3) or (x=7 and turn=4)", 7, 4, 1);
        bestSo("1000*(y*8+x=4)+9999*(y*8+x=9)", 4, 0, 999);
        bestSo("0-turn*(y*8+x)", 0, 0, 0);
    }

    private static void bestSo(String worth, int place, int turn, int most) {
        TableRocks x = Due.ruled("slack 0;worth " + worth + ";spills 0;");
        x.set(2, 0, 33);
        x.set(4, 0, 5);
        Due.is("best(0) of " + worth, x.best(0), place);
        Due.is("best(1) of " + worth, x.best(1), turn);
        Due.is("best(2) of " + worth, x.best(2), most);
        Due.is("it stays at its place", x.count(0), 33);
        Due.is("it stays turned", x.count(2), 5);
    }

    /** "WEDGE: as thick as ROCK" */
    private static void wedge() {
        TableRocks x = Due.uneven(1, 0, 0, 0);
        Due.is("wedge()", x.wedge(), 1);
        Due.is("height", x.told(35, 6), 1);
        Due.is("rock then", x.stands(1), 0);
        x = Due.uneven(9, 0, 0, 0);
        x.leg(1, 5, 2);
        x.leg(3, 5, 3);
        Due.is("wedge() less what gives", x.wedge(), 4);
        Due.is("height", x.told(35, 6), 4);
        Due.is("gap then", x.stands(0), 5);
        Due.is("wedge(), firm", x.wedge(), STATE);
        Due.is("height", x.told(35, 6), 4);
    }

    /** "HEIGHT of the CELL of the LOOSE LEG of the lesser number becomes that more" */
    private static void wedgeLesserNumber() {
        for (int turn = 0; turn <= 7; turn++) {
            TableRocks x = new TableRocks();
            x.set(4, 0, turn);
            x.set(0, 0, 55);
            Due.is("wedge()", x.wedge(), 5);
            Due.is("height beneath leg 1", x.told(x.told(1, 4), 6), 5);
            Due.is("height beneath leg 3", x.told(x.told(3, 4), 6), 0);
            x = new TableRocks();
            x.set(4, 0, turn);
            x.set(0, 1, 55);
            Due.is("wedge()", x.wedge(), 5);
            Due.is("height beneath leg 0", x.told(x.told(0, 4), 6), 5);
            Due.is("height beneath leg 2", x.told(x.told(2, 4), 6), 0);
        }
    }

    /** "(told so, also where 99 bounds);" "(99 at most)." */
    private static void wedgeBound() {
        wedgeSo(90, 8, 98, 0);
        wedgeSo(90, 9, 99, 0);
        wedgeSo(90, 10, 99, 1);
        wedgeSo(99, 1, 99, 1);
        wedgeSo(99, 99, 99, 99);
        wedgeSo(0, 99, 99, 0);
        wedgeSo(0, 100, 99, 1);
    }

    /** The cell beneath leg 1 is so high, and it rocks by so much. */
    private static void wedgeSo(int height, int rock, int then, int rockThen) {
        int zero = Math.min(99, height + rock);
        TableRocks x = Due.uneven(zero, height, height + rock - zero, 0);
        Due.is("rock", x.stands(1), rock);
        Due.is("wedge()", x.wedge(), rock);
        Due.is("height", x.told(35, 6), then);
        Due.is("rock then", x.stands(1), rockThen);
    }

    /**
     * "SAW: LONG of the two that bear it becomes less" "of the one of the lesser number by half (cut) of ROCK, of the
     * other one by the rest of ROCK."
     */
    private static void saw() {
        sawSo(1, 50, 50, 50, 49, 0);
        sawSo(2, 50, 50, 49, 49, 0);
        sawSo(3, 50, 50, 49, 48, 0);
        sawSo(4, 50, 50, 48, 48, 0);
        sawSo(99, 50, 50, 1, 0, 0);
    }

    /** "(0 at least):" */
    private static void sawAtLeast() {
        sawSo(9, 4, 50, 0, 45, 0);
        sawSo(9, 5, 50, 1, 45, 0);
        sawSo(9, 3, 50, 0, 45, 1);
        sawSo(9, 0, 50, 0, 45, 4);
        sawSo(9, 50, 5, 46, 0, 0);
        sawSo(9, 50, 6, 46, 1, 0);
        sawSo(9, 50, 4, 46, 0, 1);
        sawSo(9, 50, 0, 46, 0, 5);
        sawSo(9, 0, 0, 0, 0, 9);
    }

    /** Legs 0 and 2 bear it, then legs 1 and 3; they are so long, and it rocks by so much. */
    private static void sawSo(int rock, int one, int other, int oneThen, int otherThen, int rockThen) {
        for (int bearer = 0; bearer <= 1; bearer++) {
            TableRocks x = new TableRocks();
            x.set(0, bearer, one);
            x.set(0, bearer + 2, other);
            x.set(0, 1 - bearer, one);
            x.set(0, 3 - bearer, other);
            x.floor(x.told(bearer, 4), rock);
            Due.is("gap", x.stands(0), bearer == 0 ? rock : -rock);
            Due.is("saw()", x.saw(), rockThen);
            Due.is("long of the lesser number", x.told(bearer, 1), oneThen);
            Due.is("long of the other one", x.told(bearer + 2, 1), otherThen);
            Due.is("long of a loose one", x.told(1 - bearer, 1), one);
            Due.is("long of a loose one", x.told(3 - bearer, 1), other);
        }
    }

    /** "SCREWED: the least sum, 4 at most, of how much NUMBERS of SCREWS and CASTERS become more or less" */
    private static void screwedLeastSum() {
        screwedSo(0, 0, 2, 5, 2, 5);
        screwedSo(3, 1, 2, 5, 2, 5);
        screwedSo(6, 2, 2, 5, 2, 5);
        screwedSo(9, 3, 2, 5, 2, 5);
        screwedSo(12, 4, 2, 5, 2, 5);
        screwedSo(15, NONE, 2, 5, 2, 5);
        screwedSo(18, NONE, 2, 5, 2, 5);
        screwedSo(12, 4, 2, 6, 4, 8);
        TableRocks x = new TableRocks();
        for (int leg = 0; leg <= 3; leg++) {
            x.leg(leg, 2 + 2 * (leg % 2), 5);
            x.set(0, leg, leg % 2 == 0 ? 50 : 48);
        }
        x.floor(28, 12);
        Due.is("screwed() more of two, less of two", x.screwed(), 4);
        x.floor(28, 15);
        Due.is("screwed() more of two, less of two", x.screwed(), NONE);
        x.floor(28, 1);
        Due.is("screwed() by a gap of no 3", x.screwed(), NONE);
    }

    /** "(each 3 at most," */
    private static void screwedEach() {
        screwedSo(9, 3, 2, 5, 0, 0);
        screwedSo(12, NONE, 2, 5, 0, 0);
        screwedSo(9, 3, 4, 0, 1, 5);
        screwedSo(12, NONE, 4, 0, 1, 5);
        screwedDown(9, 3, 9);
        screwedDown(12, NONE, 9);
    }

    /** "within 0 .. 9)," */
    private static void screwedWithin() {
        screwedSo(9, 3, 2, 6, 0, 0);
        screwedSo(9, NONE, 2, 7, 0, 0);
        screwedSo(6, 2, 2, 7, 0, 0);
        screwedSo(3, 1, 2, 8, 0, 0);
        screwedSo(3, NONE, 2, 9, 0, 0);
        screwedSo(0, 0, 2, 9, 0, 0);
        screwedSo(12, 4, 2, 8, 2, 6);
        screwedSo(12, NONE, 2, 8, 2, 7);
        screwedDown(9, 3, 3);
        screwedDown(9, NONE, 2);
        screwedDown(6, 2, 2);
        screwedDown(3, 1, 1);
        screwedDown(3, NONE, 0);
    }

    /** "SCREWS and CASTERS" Of no other KIND a NUMBER becomes more or less. */
    private static void screwedKinds() {
        screwedSo(3, NONE, 0, 5, 0, 5);
        screwedSo(30, NONE, 1, 5, 1, 5);
        screwedSo(30, NONE, 3, 5, 3, 5);
        screwedSo(30, NONE, 5, 5, 5, 5);
        screwedSo(3, 1, 2, 5, 0, 0);
        screwedSo(3, 1, 0, 0, 2, 5);
        screwedSo(3, 1, 4, 5, 0, 0);
        screwedSo(3, 1, 0, 0, 4, 5);
        TableRocks x = new TableRocks();
        x.leg(1, 5, 2);
        x.set(0, 0, 52);
        Due.is("screwed(), firm by a sprung one", x.screwed(), 0);
        x.set(0, 0, 53);
        Due.is("screwed(), firm by more of a sprung one", x.screwed(), NONE);
    }

    /** "by which it is FIRM here; NONE." FIRM also by slack and by what gives; not elsewhere. */
    private static void screwedNone() {
        TableRocks x = Due.ruled("slack 1;worth 0;spills 0;");
        x.leg(0, 2, 0);
        int[] byHeight = {0, 0, 1, 1, 1, 2, 2, 2, 3, 3, 3, NONE, NONE};
        for (int height = 0; height < byHeight.length; height++) {
            x.floor(35, height);
            Due.is("screwed() by slack at " + height, x.screwed(), byHeight[height]);
        }
        x.set(2, 0, 62);
        Due.is("screwed() elsewhere", x.screwed(), 0);
        x = firmAt("0");
        Due.is("screwed() without a screw", x.screwed(), NONE);
    }

    /** Legs 1 and 3 are of these kinds and numbers, as tall as 80 with their cells; leg 0 stands so much higher. */
    private static void screwedSo(int gap, int due, int kind, int number, int otherKind, int otherNumber) {
        TableRocks x = new TableRocks();
        x.leg(1, kind, number);
        x.leg(3, otherKind, otherNumber);
        for (int leg = 0; leg <= 3; leg++) {
            x.floor(x.told(leg, 4), 80 - x.told(leg, 3) + (leg == 0 ? gap : 0));
        }
        Due.is("gap", x.stands(0), gap);
        String call = "gap " + gap + " kinds " + kind + " " + otherKind + " numbers " + number + " " + otherNumber;
        Due.is("screwed(), " + call, x.screwed(), due);
        Due.is("number stays", x.told(1, 2), number);
        Due.is("number stays", x.told(3, 2), otherNumber);
    }

    /** Leg 0 is a screw of this number that stands so much too high. */
    private static void screwedDown(int gap, int due, int number) {
        TableRocks x = new TableRocks();
        x.leg(0, 2, number);
        for (int leg = 0; leg <= 3; leg++) {
            x.floor(x.told(leg, 4), 80 - x.told(leg, 3) + (leg == 0 ? gap : 0));
        }
        Due.is("gap", x.stands(0), gap);
        Due.is("screwed() down from " + number, x.screwed(), due);
        Due.is("number stays", x.told(0, 2), number);
    }

    /**
     * "BLAME: half (cut) of THE GAP here and at TURN 2 more, together, is THE TABLE's; what is left of THE GAP here is
     * THE FLOOR's."
     */
    private static void blame() {
        for (int turn = 0; turn <= 7; turn++) {
            int floor = turn % 2 == 1 ? 0 : turn == 0 || turn == 4 ? 7 : -7;
            blameSo(50, turn, 0, floor);
            blameSo(55, turn, 5, floor);
            blameSo(54, turn, 4, floor);
            blameSo(51, turn, 1, floor);
            blameSo(45, turn, -5, floor);
            blameSo(49, turn, -1, floor);
        }
        TableRocks x = new TableRocks();
        Due.is("blame(0)", x.blame(0), 0);
        Due.is("blame(1)", x.blame(1), 0);
    }

    private static void blameSo(int length, int turn, int ofTable, int ofFloor) {
        TableRocks x = new TableRocks();
        x.set(0, 2, length);
        x.floor(28, 7);
        x.set(4, 0, turn);
        Due.is("blame(0) at turn " + turn, x.blame(0), ofTable);
        Due.is("blame(1) at turn " + turn, x.blame(1), ofFloor);
        Due.is("the turn stays", x.count(2), turn);
    }

    /** "BESIDE: of PLACES that are more than twice RADIUS from its PLACE in y or in x" */
    private static void besideFar() {
        besideSo(27, 1, 43, NONE);
        besideSo(27, 1, 51, 51);
        besideSo(27, 1, 11, NONE);
        besideSo(27, 1, 3, 3);
        besideSo(27, 1, 29, NONE);
        besideSo(27, 1, 30, 30);
        besideSo(27, 1, 25, NONE);
        besideSo(27, 1, 24, 24);
        besideSo(27, 1, 45, NONE);
        besideSo(27, 1, 46, 46);
        besideSo(27, 1, 53, 53);
        besideSo(27, 1, 54, 54);
        besideSo(27, 1, 9, NONE);
        besideSo(27, 1, 27, NONE);
        besideSo(0, 2, 36, NONE);
        besideSo(0, 2, 37, 37);
        besideSo(0, 2, 44, 44);
        besideSo(0, 3, 54, NONE);
        besideSo(0, 3, 55, 55);
        besideSo(0, 3, 62, 62);
        besideSo(63, 3, 9, NONE);
        besideSo(63, 3, 8, 8);
        besideSo(63, 3, 1, 1);
    }

    private static void besideSo(int place, int radius, int firm, int due) {
        TableRocks x = firmAt("y*8+x=" + firm + " and turn=5");
        x.set(2, 0, place);
        x.set(3, 0, radius);
        String call = "from " + place + " radius " + radius + " firm at " + firm;
        Due.is("beside(0) " + call, x.beside(0), due);
        Due.is("beside(1) " + call, x.beside(1), due == NONE ? NONE : 5);
    }

    /** "the least one at which it would be FIRM at any TURN; the least such TURN;" */
    private static void besideLeast() {
        besideSo("1", 0, 0);
        besideSo("turn=7", 0, 7);
        besideSo("y*8+x=63", 63, 0);
        besideSo("y*8+x=63 and turn=7", 63, 7);
        besideSo("y*8+x=62 or y*8+x=61", 61, 0);
        besideSo("(y*8+x=6 and turn=7) or (y*8+x=7 and turn=0)", 6, 7);
        besideSo("y*8+x=6 and (turn=3 or turn=4)", 6, 3);
        besideSo("y*8+x=6 and 2<turn", 6, 3);
    }

    private static void besideSo(String firm, int place, int turn) {
        TableRocks x = firmAt(firm);
        Due.is("beside(0) of " + firm, x.beside(0), place);
        Due.is("beside(1) of " + firm, x.beside(1), turn);
        Due.is("it stays at its place", x.count(0), 27);
        Due.is("it stays turned", x.count(2), 0);
    }

    /** "the least such TURN; NONE." No PLACE is far enough, or at none it is FIRM; there is none beyond 63. */
    private static void besideNone() {
        besideSo("0", NONE, NONE);
        besideSo("7<y", NONE, NONE);
        besideSo("y<0 or x<0 or 7<x", NONE, NONE);
        besideSo("1<y and y<6 and 0<x and x<6", NONE, NONE);
        TableRocks x = new TableRocks();
        x.set(3, 0, 2);
        Due.is("beside(0) in the middle", x.beside(0), NONE);
        Due.is("beside(1) in the middle", x.beside(1), NONE);
        x.set(2, 0, 19);
        Due.is("beside(0), one up", x.beside(0), 56);
        x.set(2, 0, 26);
        Due.is("beside(0), one to the left", x.beside(0), 7);
    }

    /** "SIT: by how much LOAD must be more (9 at most in all) at least, so that it is FIRM here;" */
    private static void sit() {
        sitSo(59, 0, 9);
        sitSo(58, 0, 8);
        sitSo(51, 0, 1);
        sitSo(50, 0, 0);
        sitSo(59, 8, 1);
        sitSo(59, 9, 0);
        sitSo(55, 4, 1);
        sitSo(55, 5, 0);
        sitSo(54, 2, 2);
        sitSo(49, 0, 0);
        sitSo(58, 9, 0);
        sitSo(50, 1, 0);
        TableRocks x = new TableRocks();
        x.leg(0, 1, 2);
        Due.is("sit() on a felt", x.sit(), 4);
        x.set(5, 0, 3);
        Due.is("sit() on a felt", x.sit(), 1);
    }

    /** "so that it is FIRM here; NONE." */
    private static void sitNone() {
        sitSo(60, 0, NONE);
        sitSo(60, 9, NONE);
        sitSo(48, 0, NONE);
        sitSo(57, 9, NONE);
        sitSo(50, 2, NONE);
        TableRocks x = firmAt("0");
        Due.is("sit() on legs", x.sit(), NONE);
    }

    /**
     * Leg 0 is a sprung one of number 1: as tall as the others by a load of as much as it is longer; by a load of 1
     * more it is loose, and gives 1.
     */
    private static void sitSo(int length, int load, int due) {
        TableRocks x = new TableRocks();
        x.leg(0, 5, 1);
        x.set(0, 0, length);
        x.set(5, 0, load);
        Due.is("sit() by long " + length + " load " + load, x.sit(), due);
        Due.is("the load stays", x.count(3), load);
    }

    /**
     * "JUDGED: a SHEET tells which knocks are heard, at the TURN of now, and then as it is turned upward step by step:
     * 0 it is FIRM, else 1 LEGS 0 and 2 bear it, 2 LEGS 1 and 3 do: the first (from 0) that is otherwise; NONE."
     */
    private static void judged() {
        TableRocks x = Due.uneven(7, 0, 0, 0);
        judgeSo(x, NONE);
        judgeSo(x, NONE, 1);
        judgeSo(x, 0, 0);
        judgeSo(x, 0, 2);
        judgeSo(x, 0, 3);
        judgeSo(x, 0, -1);
        judgeSo(x, NONE, 1, 0);
        judgeSo(x, 1, 1, 1);
        judgeSo(x, 1, 1, 2, 2);
        judgeSo(x, NONE, 1, 0, 2, 0);
        judgeSo(x, 2, 1, 0, 1, 0);
        judgeSo(x, 3, 1, 0, 2, 1, 9);
        judgeSo(x, 0, 9, 9, 9);
        x = Due.uneven(0, 7, 0, 0);
        judgeSo(x, NONE, 2, 0, 1, 0);
        judgeSo(x, 0, 1, 0, 1, 0);
        judgeSo(Due.uneven(1, 0, 0, 0), NONE, 1, 0, 2);
        judgeSo(Due.uneven(0, 1, 0, 0), NONE, 2, 0, 1);
        x = Due.ruled("slack 7;worth 0;spills 0;");
        x.floor(28, 7);
        judgeSo(x, NONE, 0, 0, 0);
        judgeSo(x, 0, 1, 0, 2);
    }

    /** "as it is turned upward step by step" 40 steps go round five times. */
    private static void judgedRound() {
        int[] knocks = new int[40];
        for (int turn = 0; turn <= 7; turn++) {
            TableRocks x = Due.uneven(7, 0, 0, 0);
            x.set(4, 0, turn);
            for (int i = 0; i < 40; i++) {
                int t = (turn + i) % 8;
                knocks[i] = t % 2 == 1 ? 0 : t % 4 == 0 ? 1 : 2;
            }
            judgeSo(x, NONE, knocks);
            x.cell(0, 39, 3);
            Due.is("judge(0), the last one", x.judge(0), 39);
            x.cell(0, 8, 3);
            Due.is("judge(0), once round", x.judge(0), 8);
            Due.is("the turn stays", x.count(2), turn);
        }
    }

    private static void judgeSo(TableRocks x, int due, int... knocks) {
        Due.fill(x, 0, 2, knocks);
        Due.is("judge(0)", x.judge(0), due);
    }

    /** "WHICH: PLACES (bits of 64) at which, from its TURN on, it would be just so." */
    private static void which() {
        for (int place = 0; place <= 63; place++) {
            TableRocks x = firmAt("y*8+x=" + place + " and turn=7");
            x.set(4, 0, 6);
            Due.fill(x, 3, 0, 1, 0, 1);
            Due.is("which(3) of " + place, x.which(3), 1L << place);
            Due.fill(x, 3, 0, 1, 1, 1);
            Due.is("which(3) of all but " + place, x.which(3), ~(1L << place));
            x.set(4, 0, 7);
            Due.fill(x, 3, 0, 0, 1);
            Due.is("which(3) of " + place, x.which(3), 1L << place);
        }
        TableRocks x = firmAt("0");
        Due.fill(x, 3, 0);
        Due.is("which(3) of nothing told", x.which(3), -1L);
        Due.fill(x, 3, 0, 0);
        Due.is("which(3) of none", x.which(3), 0);
        Due.fill(x, 3, 0, 1);
        Due.is("which(3) of all", x.which(3), -1L);
        x = firmAt("y<0 or 7<y or x<0 or 7<x");
        Due.fill(x, 3, 0, 0);
        Due.is("which(3) of none beyond the floor", x.which(3), 0);
        x = new TableRocks();
        x.floor(62, 7);
        Due.fill(x, 0, 0, 0);
        Due.is("which(0), not 63", x.which(0) >>> 63, 0);
        x.floor(62, 0);
        x.floor(1, 7);
        Due.is("which(0), not 0", x.which(0) & 1, 0);
        Due.is("which(0), but 63", x.which(0) >>> 63, 1);
    }

    /** Seeds, with the PLACE and the TURN that are drawn by them. */
    private static final int[][] DRAWN = {{0, 48, 5}, {1, 62, 4}, {3, 27, 1}, {-1, 33, 7}, {-2, 19, 0}, {-77, 25, 1},
        {Integer.MAX_VALUE, 33, 7}, {Integer.MIN_VALUE, 48, 5}, {1000000007, 23, 2}, {-2887, 0, 0}, {-2927, 63, 7},
        {-2612, 0, 7}, {-1880, 63, 0}};

    /**
     * "DRAWN by a SEED: z = z * 1103515245 + 12345 (an int; SEED at first): the PLACE is (z >>> 8) % 64; then z
     * likewise once more: the TURN is (z >>> 10) % 8: ROCK there."
     */
    private static void drawn() {
        for (int[] d : DRAWN) {
            TableRocks x = firmAt("y*8+x=" + d[1] + " and turn=" + d[2]);
            Due.is("drawn(" + d[0] + ")", x.drawn(d[0]), 0);
            x = firmAt("not(y*8+x=" + d[1] + " and turn=" + d[2] + ")");
            Due.is("drawn(" + d[0] + ")", x.drawn(d[0]), 9);
            Due.is("it stays at its place", x.count(0), 27);
            Due.is("it stays turned", x.count(2), 0);
        }
    }

    /** "IN n seeds (1 .. 30), SEED and each 1 more (an int): of these those by which it is FIRM there." */
    private static void oddsOf() {
        TableRocks x = firmAt("y*8+x=33 and turn=7");
        oddsSo(x, -1, 1, 1, 1);
        oddsSo(x, -2, 1, 0, 1);
        oddsSo(x, -2, 2, 1, 2);
        oddsSo(x, -2, 3, 1, 3);
        oddsSo(x, 0, 30, 0, 1);
        oddsSo(x, -29, 30, 1, 30);
        oddsSo(x, -30, 30, 1, 30);
        oddsSo(x, -31, 30, 0, 1);
        oddsSo(x, Integer.MAX_VALUE, 1, 1, 1);
        oddsSo(x, Integer.MAX_VALUE, 2, 1, 2);
        oddsSo(x, Integer.MAX_VALUE - 1, 4, 1, 4);
        x = firmAt("(y*8+x=48 and turn=5) or (y*8+x=33 and turn=7)");
        oddsSo(x, Integer.MAX_VALUE, 2, 1, 1);
        oddsSo(x, Integer.MAX_VALUE, 4, 1, 2);
        oddsSo(x, Integer.MAX_VALUE - 1, 6, 1, 3);
        oddsSo(firmAt("0"), 5, 30, 0, 1);
        oddsSo(firmAt("1"), 5, 30, 1, 1);
        Due.is("odds(5, 0, 0)", x.odds(5, 0, 0), TableRocks.NO);
        Due.is("odds(5, 31, 0)", x.odds(5, 31, 0), TableRocks.NO);
    }

    private static void oddsSo(TableRocks x, int seed, int n, int above, int below) {
        Due.is("odds(" + seed + ", " + n + ", 0)", x.odds(seed, n, 0), above);
        Due.is("odds(" + seed + ", " + n + ", 1)", x.odds(seed, n, 1), below);
    }

    /** "AN IMAGE keeps THE FLOOR, THE TABLE, LONG, NUMBERS, LOAD, THE RULE (KINDS of LEGS stay)." */
    private static void image() {
        TableRocks x = Due.ruled("slack0;worth7;spills0;");
        for (int cell = 0; cell <= 63; cell++) {
            x.floor(cell, 36 + cell);
        }
        become(x, 60, 1, 63, 3, 7, 9, 1, 2);
        Due.is("image()", x.image(), 7);
        x.wave(0, 0, 0);
        become(x, 10, 6, 0, 1, 0, 0, 0, 4);
        Due.is("back()", x.back(), 7);
        for (int cell = 0; cell <= 63; cell++) {
            Due.is("height of " + cell, x.told(cell, 6), 36 + cell);
        }
        int[] counts = {63, 3, 7, 9, 2, 0, 1};
        for (int what = 0; what <= 6; what++) {
            Due.is("count(" + what + ")", x.count(what), counts[what]);
        }
        for (int leg = 0; leg <= 3; leg++) {
            Due.is("long of " + leg, x.told(leg, 1), 60 + leg);
            Due.is("number of " + leg, x.told(leg, 2), 1 + leg);
            Due.is("the kind stays", x.told(leg, 0), 4);
        }
        Due.is("worth by the rule", x.stands(4), 7);
    }

    private static void become(TableRocks x, int... s) {
        for (int leg = 0; leg <= 3; leg++) {
            x.leg(leg, s[7], s[1] + (s[1] > 5 ? -leg : leg));
            x.set(0, leg, s[0] + leg);
        }
        for (int what = 2; what <= 5; what++) {
            x.set(what, 0, s[what]);
        }
        x.force(s[6]);
    }
}
