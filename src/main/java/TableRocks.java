/** A table that rocks: four legs of kinds on a floor of cells with heights. */
public final class TableRocks {
    public static final int NONE = -1, BAD = -2, STATE = -3, FULL = -4;
    public static final long NO = -4611686018427387904L;

    private static final int NOTHING = -11;
    private static final int OUTSIDE = -12;
    private static final int UNLIKE = -13;
    private static final int NEGATIVE_SIZE = -14;
    private static final int NO_SUCH = -100000;
    private static final int FAULT_BASE = -100;

    private static final int SIDE = 8;
    private static final int CELLS = 64;
    private static final int TURNS = 8;
    private static final int LEGS = 4;
    private static final int KINDS = 6;
    private static final int MOST_HEIGHT = 99;
    private static final int MOST_LENGTH = 99;
    private static final int MOST_NUMBER = 9;
    private static final int MOST_RADIUS = 3;
    private static final int MOST_LOAD = 9;
    private static final int MOST_STEPS = 7;
    private static final int MOST_SCREWING = 4;
    private static final int SCREW_REACH = 3;
    private static final int SCREW_CHOICES = 7;
    private static final int SCREW_WAYS = 2401;
    private static final int MOST_SEEDS = 30;

    private static final int TAPE_SIZE = 160;
    private static final int TEXTS = 6;
    private static final String FIRST_TEXT =
            "slack 0 ; worth 0 - rock * 9 - lean ; spills lean + rock * 2 ;";

    private static final int SHEETS = 4;
    private static final int SORTS = 3;
    private static final int MOST_ITEMS = 40;
    private static final int MOST_PAIRS = 20;

    private final Table table = new Table();
    private final Table kept = new Table();
    private boolean keeps = false;
    private final Reader reader = new Reader();
    private final Rule[] rules = new Rule[TEXTS];
    private int ruleCount = 0;
    private final Stand stand = new Stand();
    private final Sheet[] sheets = new Sheet[SHEETS];

    public TableRocks() {
        for (int i = 0; i < TEXTS; i++) {
            rules[i] = new Rule();
        }
        for (int i = 0; i < SHEETS; i++) {
            sheets[i] = new Sheet();
        }
        for (int i = 0; i < FIRST_TEXT.length(); i++) {
            reader.append(FIRST_TEXT.charAt(i));
        }
        text();
    }

    // ---- floor, legs, table

    public int floor(int cell, int v) {
        if (!within(cell, 0, CELLS - 1) || !within(v, 0, MOST_HEIGHT)) {
            return BAD;
        }
        int was = table.heights[cell];
        table.heights[cell] = v;
        return was;
    }

    public int wave(int a, int b, int c) {
        if (!within(a, 0, 99) || !within(b, 0, 99) || !within(c, 0, 99)) {
            return BAD;
        }
        int sum = 0;
        for (int i = 0; i < CELLS; i++) {
            int y = i / SIDE;
            int x = i % SIDE;
            table.heights[i] = (y * a + x * b + y * x * c) % (MOST_HEIGHT + 1);
            sum += table.heights[i];
        }
        return sum;
    }

    public int leg(int leg, int kind, int number) {
        if (!isLeg(leg) || !isKind(kind) || !within(number, 0, MOST_NUMBER)) {
            return BAD;
        }
        int was = table.legs[leg].kind;
        table.legs[leg].kind = kind;
        table.legs[leg].number = number;
        return was;
    }

    public int set(int what, int of, int v) {
        switch (what) {
            case 0:
            case 1:
                return setOfLeg(what, of, v);
            case 2:
            case 3:
            case 4:
            case 5:
                return setOfTable(what, v);
            default:
                return BAD;
        }
    }

    public int told(int of, int what) {
        if (what == 6) {
            return within(of, 0, CELLS - 1) ? table.heights[of] : BAD;
        }
        if (!isLeg(of)) {
            return BAD;
        }
        switch (what) {
            case 0:
                return table.legs[of].kind;
            case 1:
                return table.legs[of].length;
            case 2:
                return table.legs[of].number;
            case 3:
                return table.legs[of].tall(table.load);
            case 4:
                return table.cellBeneath(of, table.place, table.turn);
            case 5:
                return table.heightOf(of, table.place, table.turn);
            default:
                return BAD;
        }
    }

    // ---- texts

    public int feed(int letter) {
        if (!within(letter, 0, 255)) {
            return BAD;
        }
        return reader.append(letter) ? reader.size : FULL;
    }

    public int text() {
        if (ruleCount >= TEXTS) {
            return FULL;
        }
        int fault = reader.readTape();
        if (fault != NONE) {
            return FAULT_BASE - fault;
        }
        rules[ruleCount].becomeLike(reader.rule);
        ruleCount++;
        return ruleCount - 1;
    }

    public int force(int text) {
        if (!within(text, 0, ruleCount - 1)) {
            return BAD;
        }
        int was = table.rule;
        table.rule = text;
        return was;
    }

    // ---- how it stands

    public int stands(int what) {
        return standing(table.place, table.turn, what);
    }

    public int standsAt(int place, int turn, int what) {
        if (!within(place, 0, CELLS - 1) || !within(turn, 0, TURNS - 1)) {
            return NO_SUCH;
        }
        return standing(place, turn, what);
    }

    public int firm() {
        int bits = 0;
        for (int turn = 0; turn < TURNS; turn++) {
            if (isFirmAt(table.place, turn)) {
                bits |= 1 << turn;
            }
        }
        return bits;
    }

    public int fewest(int what) {
        if (!within(what, 0, 1)) {
            return BAD;
        }
        for (int steps = 0; steps <= TURNS / 2; steps++) {
            int upward = round(table.turn + steps);
            if (isFirmAt(table.place, upward)) {
                return what == 0 ? steps : upward;
            }
            int downward = round(table.turn - steps);
            if (isFirmAt(table.place, downward)) {
                return what == 0 ? steps : downward;
            }
        }
        return NONE;
    }

    public int feels(int what) {
        if (!within(what, 0, 1)) {
            return BAD;
        }
        int steps = 0;
        measure(table.place, table.turn);
        int first = stand.firstBearing();
        while (steps < TURNS && !stand.isFirm() && stand.firstBearing() == first) {
            steps++;
            measure(table.place, round(table.turn + steps));
        }
        if (what == 0) {
            return steps;
        }
        return stand.isFirm() ? 1 : 0;
    }

    public int best(int what) {
        if (!within(what, 0, 2)) {
            return NO_SUCH;
        }
        int bestSpot = 0;
        int bestWorth = worthAt(0, 0);
        for (int spot = 1; spot < CELLS * TURNS; spot++) {
            int worth = worthAt(spot / TURNS, spot % TURNS);
            if (worth > bestWorth) {
                bestWorth = worth;
                bestSpot = spot;
            }
        }
        if (what == 2) {
            return bestWorth;
        }
        return what == 0 ? bestSpot / TURNS : bestSpot % TURNS;
    }

    // ---- what is done

    public int turn(int steps) {
        if (!within(steps, -MOST_STEPS, MOST_STEPS)) {
            return BAD;
        }
        table.turn = round(table.turn + steps);
        return rockHere();
    }

    public int wedge() {
        int rock = rockHere();
        if (rock == 0) {
            return STATE;
        }
        int cell = table.cellBeneath(stand.firstLoose(), table.place, table.turn);
        table.heights[cell] = Math.min(MOST_HEIGHT, table.heights[cell] + rock);
        return rock;
    }

    public int saw() {
        int rock = rockHere();
        if (rock == 0) {
            return STATE;
        }
        int half = rock / 2;
        int bearer = stand.firstBearing();
        table.legs[bearer].shorten(half);
        table.legs[bearer + 2].shorten(rock - half);
        return rockHere();
    }

    public int screwed() {
        int least = NONE;
        for (int way = 0; way < SCREW_WAYS; way++) {
            int sum = screwSum(way);
            boolean isLess = sum != NONE && (least == NONE || sum < least);
            if (isLess && isFirmScrewed(way)) {
                least = sum;
            }
        }
        return least;
    }

    public int blame(int what) {
        if (!within(what, 0, 1)) {
            return NO_SUCH;
        }
        int here = gapAt(table.turn);
        int ofTable = (here + gapAt(round(table.turn + 2))) / 2;
        return what == 0 ? ofTable : here - ofTable;
    }

    public int beside(int what) {
        if (!within(what, 0, 1)) {
            return BAD;
        }
        for (int spot = 0; spot < CELLS * TURNS; spot++) {
            int place = spot / TURNS;
            int turn = spot % TURNS;
            if (isApart(place) && isFirmAt(place, turn)) {
                return what == 0 ? place : turn;
            }
        }
        return NONE;
    }

    public int sit() {
        int load = table.load;
        int more = NONE;
        for (int i = 0; i <= MOST_LOAD - load && more == NONE; i++) {
            table.load = load + i;
            if (isFirmAt(table.place, table.turn)) {
                more = i;
            }
        }
        table.load = load;
        return more;
    }

    public int judge(int sheet) {
        if (!isSheet(sheet)) {
            return BAD;
        }
        return sheets[sheet].isMissing() ? NOTHING : firstOtherwise(sheets[sheet], table.place);
    }

    public long which(int sheet) {
        if (!isSheet(sheet) || sheets[sheet].isMissing()) {
            return NO;
        }
        long bits = 0;
        for (int place = 0; place < CELLS; place++) {
            if (firstOtherwise(sheets[sheet], place) == NONE) {
                bits |= 1L << place;
            }
        }
        return bits;
    }

    public int drawn(int seed) {
        int first = nextDraw(seed);
        int second = nextDraw(first);
        measure((first >>> 8) % CELLS, (second >>> 10) % TURNS);
        return stand.rock;
    }

    public long odds(int seed, int n, int part) {
        if (!within(n, 1, MOST_SEEDS) || !within(part, 0, 1)) {
            return NO;
        }
        int above = 0;
        for (int i = 0; i < n; i++) {
            if (drawn(seed + i) == 0) {
                above++;
            }
        }
        int divisor = commonDivisor(above, n);
        return part == 0 ? above / divisor : n / divisor;
    }

    public int image() {
        kept.becomeLike(table);
        keeps = true;
        return table.turn;
    }

    public int back() {
        if (!keeps) {
            return STATE;
        }
        table.becomeLike(kept);
        return table.turn;
    }

    public int count(int what) {
        switch (what) {
            case 0:
                return table.place;
            case 1:
                return table.radius;
            case 2:
                return table.turn;
            case 3:
                return table.load;
            case 4:
                return ruleCount;
            case 5:
                return reader.size;
            case 6:
                return table.rule;
            default:
                return BAD;
        }
    }

    // ---- the host

    public int sheet(int sheet, int sort, int n) {
        if (!isSheet(sheet) || !within(sort, NONE, SORTS - 1)) {
            return BAD;
        }
        if (sort == NONE) {
            sheets[sheet].vanish();
            return 1;
        }
        if (n > MOST_ITEMS) {
            return BAD;
        }
        if (n < 0) {
            return NEGATIVE_SIZE;
        }
        sheets[sheet].become(sort, n);
        return 1;
    }

    public int cell(int sheet, int i, int v) {
        if (!isSheet(sheet)) {
            return BAD;
        }
        if (sheets[sheet].isMissing()) {
            return NOTHING;
        }
        if (!sheets[sheet].hasItem(i)) {
            return OUTSIDE;
        }
        sheets[sheet].put(i, v);
        return 1;
    }

    public int copy(int sheet, int i, int other, int j, int n) {
        if (!isSheet(sheet) || !isSheet(other)) {
            return BAD;
        }
        Sheet from = sheets[sheet];
        Sheet to = sheets[other];
        if (from.isMissing() || to.isMissing()) {
            return NOTHING;
        }
        if (from.sort != to.sort) {
            return UNLIKE;
        }
        if (!from.hasItems(i, n) || !to.hasItems(j, n)) {
            return OUTSIDE;
        }
        System.arraycopy(from.items, i, to.items, j, n);
        return n;
    }

    public int floors(int sheet, int sort, int from, int n) {
        if (!isSheet(sheet) || !within(sort, 0, SORTS - 1) || !within(n, 0, MOST_PAIRS)) {
            return BAD;
        }
        Sheet pairs = sheets[sheet];
        if (pairs.isMissing()) {
            return NOTHING;
        }
        if (pairs.sort != sort) {
            return UNLIKE;
        }
        int became = 0;
        for (int k = 0; k < n; k++) {
            int i = from + 2 * k;
            if (!pairs.hasItems(i, 2)) {
                return OUTSIDE;
            }
            if (floor(pairs.items[i], pairs.items[i + 1]) != BAD) {
                became++;
            }
        }
        return became;
    }

    public int taken(int leg, int k) {
        if (!isKind(k)) {
            return BAD;
        }
        if (!isLeg(leg)) {
            return NOTHING;
        }
        return table.legs[leg].isOne(k) ? table.legs[leg].length : UNLIKE;
    }

    // ---- what the calls above share

    private static boolean within(int v, int least, int most) {
        return v >= least && v <= most;
    }

    private static int held(int v, int least, int most) {
        if (v < least) {
            return least;
        }
        return v > most ? most : v;
    }

    private static int round(int turn) {
        return Math.floorMod(turn, TURNS);
    }

    private static boolean isLeg(int leg) {
        return within(leg, 0, LEGS - 1);
    }

    private static boolean isKind(int kind) {
        return within(kind, 0, KINDS - 1);
    }

    private static boolean isSheet(int sheet) {
        return within(sheet, 0, SHEETS - 1);
    }

    private static int nextDraw(int z) {
        return z * 1103515245 + 12345;
    }

    /** Of a from 0 on and b from 1 on: at least 1, so that it may divide. */
    private static int commonDivisor(int a, int b) {
        int divisor = 1;
        for (int d = 2; d <= b; d++) {
            if (a % d == 0 && b % d == 0) {
                divisor = d;
            }
        }
        return divisor;
    }

    private int setOfLeg(int what, int leg, int v) {
        if (!isLeg(leg) || !within(v, 0, what == 0 ? MOST_LENGTH : MOST_NUMBER)) {
            return BAD;
        }
        Leg it = table.legs[leg];
        int was = what == 0 ? it.length : it.number;
        if (what == 0) {
            it.length = v;
        } else {
            it.number = v;
        }
        return was;
    }

    private int setOfTable(int what, int v) {
        int was = BAD;
        if (what == 2 && within(v, 0, CELLS - 1)) {
            was = table.place;
            table.place = v;
        } else if (what == 3 && within(v, 1, MOST_RADIUS)) {
            was = table.radius;
            table.radius = v;
        } else if (what == 4 && within(v, 0, TURNS - 1)) {
            was = table.turn;
            table.turn = v;
        } else if (what == 5 && within(v, 0, MOST_LOAD)) {
            was = table.load;
            table.load = v;
        }
        return was;
    }

    private Rule ruleInForce() {
        return rules[table.rule];
    }

    private void measure(int place, int turn) {
        stand.measure(table, ruleInForce(), place, turn);
    }

    private int standing(int place, int turn, int what) {
        if (!within(what, 0, 5)) {
            return NO_SUCH;
        }
        measure(place, turn);
        switch (what) {
            case 0:
                return stand.gap;
            case 1:
                return stand.rock;
            case 2:
                return stand.lean;
            case 3:
                return stand.looseBits();
            case 4:
                return stand.worth(ruleInForce());
            default:
                return stand.spills(ruleInForce());
        }
    }

    private boolean isFirmAt(int place, int turn) {
        measure(place, turn);
        return stand.isFirm();
    }

    private int worthAt(int place, int turn) {
        measure(place, turn);
        return stand.worth(ruleInForce());
    }

    private int gapAt(int turn) {
        measure(table.place, turn);
        return stand.gap;
    }

    private int rockHere() {
        measure(table.place, table.turn);
        return stand.rock;
    }

    private boolean isApart(int place) {
        int far = 2 * table.radius;
        return Math.abs(place / SIDE - table.place / SIDE) > far
                || Math.abs(place % SIDE - table.place % SIDE) > far;
    }

    /** A way of screwing is a number of four digits to the base 7, a digit a leg. */
    private static int screwStep(int way, int leg) {
        int rest = way;
        for (int i = 0; i < leg; i++) {
            rest /= SCREW_CHOICES;
        }
        return rest % SCREW_CHOICES - SCREW_REACH;
    }

    private int screwSum(int way) {
        int sum = 0;
        for (int i = 0; i < LEGS; i++) {
            int step = screwStep(way, i);
            if (step != 0 && !table.legs[i].canScrew(step)) {
                return NONE;
            }
            sum += Math.abs(step);
        }
        return sum <= MOST_SCREWING ? sum : NONE;
    }

    private boolean isFirmScrewed(int way) {
        screwAll(way, 1);
        measure(table.place, table.turn);
        screwAll(way, -1);
        return stand.isFirm();
    }

    private void screwAll(int way, int sign) {
        for (int i = 0; i < LEGS; i++) {
            table.legs[i].number += sign * screwStep(way, i);
        }
    }

    private int firstOtherwise(Sheet sheet, int place) {
        for (int i = 0; i < sheet.size; i++) {
            measure(place, round(table.turn + i));
            if (sheet.items[i] != stand.knock()) {
                return i;
            }
        }
        return NONE;
    }

    private static final class Leg {
        private static final int PLAIN = 0;
        private static final int FELT = 1;
        private static final int SCREW = 2;
        private static final int WORN = 3;
        private static final int CASTER = 4;
        private static final int SPRUNG = 5;
        private static final int[] UNDER = {NONE, PLAIN, PLAIN, FELT, SCREW, PLAIN};

        private int kind = PLAIN;
        private int length = 50;
        private int number = 0;

        private int tall(int load) {
            int tall = length;
            switch (kind) {
                case FELT:
                    tall = feltTall(load);
                    break;
                case SCREW:
                    tall = screwTall();
                    break;
                case WORN:
                    tall = feltTall(load) / 2;
                    break;
                case CASTER:
                    tall = screwTall() + 2;
                    break;
                case SPRUNG:
                    tall = length - load * number;
                    break;
                default:
                    break;
            }
            return Math.max(0, tall);
        }

        private int feltTall(int load) {
            return length + number - load / 2;
        }

        private int screwTall() {
            return length + 3 * number;
        }

        private int gives(int gap) {
            switch (kind) {
                case FELT:
                    return feltGives(gap);
                case WORN:
                    return feltGives(gap) + 1;
                case SPRUNG:
                    return Math.min(gap, number);
                default:
                    return 0;
            }
        }

        private int feltGives(int gap) {
            return Math.min(gap / 2, number);
        }

        private boolean isOne(int wanted) {
            int k = kind;
            for (int i = 0; i < KINDS && k != wanted && isKind(k); i++) {
                k = UNDER[k];
            }
            return k == wanted;
        }

        private boolean canScrew(int step) {
            return isOne(SCREW) && within(number + step, 0, MOST_NUMBER);
        }

        private void shorten(int by) {
            length = Math.max(0, length - by);
        }
    }

    private static final class Table {
        private static final int[] WAY_Y = {0, 1, 1, 1, 0, -1, -1, -1};
        private static final int[] WAY_X = {1, 1, 0, -1, -1, -1, 0, 1};

        private final int[] heights = new int[CELLS];
        private final Leg[] legs = new Leg[LEGS];
        private int place = 27;
        private int radius = 1;
        private int turn = 0;
        private int load = 0;
        private int rule = 0;

        private Table() {
            for (int i = 0; i < LEGS; i++) {
                legs[i] = new Leg();
            }
        }

        private int cellBeneath(int leg, int place, int turn) {
            int way = round(turn + 2 * leg);
            int y = held(place / SIDE + radius * WAY_Y[way], 0, SIDE - 1);
            int x = held(place % SIDE + radius * WAY_X[way], 0, SIDE - 1);
            return y * SIDE + x;
        }

        private int heightOf(int leg, int place, int turn) {
            return heights[cellBeneath(leg, place, turn)] + legs[leg].tall(load);
        }

        /** Kinds stay, since an image does not keep them. */
        private void becomeLike(Table other) {
            System.arraycopy(other.heights, 0, heights, 0, CELLS);
            for (int i = 0; i < LEGS; i++) {
                legs[i].length = other.legs[i].length;
                legs[i].number = other.legs[i].number;
            }
            place = other.place;
            radius = other.radius;
            turn = other.turn;
            load = other.load;
            rule = other.rule;
        }
    }

    /** How the table stands, or would, at the place and turn that were measured last. */
    private static final class Stand {
        private final int[] at = new int[LEGS];
        private final int[] names = new int[Token.NAMES];
        private final int[] stack = new int[TAPE_SIZE];
        private int gap = 0;
        private int size = 0;
        private int rock = 0;
        private int lean = 0;

        private void measure(Table table, Rule rule, int place, int turn) {
            for (int i = 0; i < LEGS; i++) {
                at[i] = table.heightOf(i, place, turn);
            }
            gap = at[0] + at[2] - at[1] - at[3];
            size = Math.abs(gap);
            lean = measureLean();
            int give = giveOfLoose(table);
            name(Token.TURN, turn);
            name(Token.Y, place / SIDE);
            name(Token.X, place % SIDE);
            name(Token.GIVE, give);
            rock = size <= slack(rule) ? 0 : Math.max(0, size - give);
        }

        /** By a gap of 0 its fourth number is what the fourth leg stands at. */
        private int measureLean() {
            int one = at[firstBearing()];
            int two = at[firstBearing() + 2];
            int three = at[1 - firstBearing()];
            int four = one + two - three;
            int greatest = Math.max(Math.max(one, two), Math.max(three, four));
            int least = Math.min(Math.min(one, two), Math.min(three, four));
            return greatest - least;
        }

        private int giveOfLoose(Table table) {
            if (gap == 0) {
                return 0;
            }
            return table.legs[firstLoose()].gives(size) + table.legs[firstLoose() + 2].gives(size);
        }

        private void name(int token, int v) {
            int i = Token.nameIndex(token);
            if (within(i, 0, Token.NAMES - 1)) {
                names[i] = v;
            }
        }

        private int slack(Rule rule) {
            name(Token.ROCK, size);
            name(Token.LEAN, 0);
            return held(rule.value(0, names, stack), 0, 9);
        }

        private int worth(Rule rule) {
            name(Token.ROCK, rock);
            name(Token.LEAN, lean);
            return held(rule.value(1, names, stack), -999, 999);
        }

        private int spills(Rule rule) {
            name(Token.ROCK, rock);
            name(Token.LEAN, lean);
            return held(rule.value(2, names, stack), 0, 99);
        }

        private boolean isFirm() {
            return rock == 0;
        }

        private int firstBearing() {
            return gap < 0 ? 1 : 0;
        }

        private int firstLoose() {
            return gap < 0 ? 0 : 1;
        }

        private int looseBits() {
            if (gap == 0) {
                return 0;
            }
            return gap > 0 ? 2 + 8 : 1 + 4;
        }

        private int knock() {
            if (isFirm()) {
                return 0;
            }
            return gap > 0 ? 1 : 2;
        }
    }

    /** Tokens below 0 stand in the code of a rule too, as what is done there. */
    private static final class Token {
        private static final int END = 0;
        private static final int BROKEN = 1;
        private static final int NUMBER = 2;
        private static final int OPENING = 3;
        private static final int CLOSING = 4;
        private static final int SEMICOLON = 5;
        /** The keys of a text's parts follow one another as the parts do. */
        private static final int SLACK = 6;
        private static final int WORTH = 7;
        private static final int SPILLS = 8;

        private static final int NAMES = 6;
        private static final int ROCK = -1;
        private static final int LEAN = -2;
        private static final int TURN = -3;
        private static final int Y = -4;
        private static final int X = -5;
        private static final int GIVE = -6;

        private static final int OR = -7;
        private static final int AND = -8;
        private static final int NOT = -9;
        private static final int LESS = -10;
        private static final int LIKE = -11;
        private static final int PLUS = -12;
        private static final int MINUS = -13;
        private static final int TIMES = -14;
        private static final int OPPOSITE = -15;

        private static boolean isName(int token) {
            return within(nameIndex(token), 0, NAMES - 1);
        }

        private static int nameIndex(int token) {
            return -1 - token;
        }

        private static int ofSign(int letter) {
            switch (letter) {
                case '(':
                    return OPENING;
                case ')':
                    return CLOSING;
                case ';':
                    return SEMICOLON;
                case '+':
                    return PLUS;
                case '-':
                    return MINUS;
                case '*':
                    return TIMES;
                case '<':
                    return LESS;
                case '=':
                    return LIKE;
                default:
                    return BROKEN;
            }
        }
    }

    /** A text that was read: its three parts as code for a stack, one behind the other. */
    private static final class Rule {
        private static final int PARTS = 3;

        private final int[] code = new int[TAPE_SIZE];
        private final int[] ends = new int[PARTS];
        private int size = 0;

        private void append(int step) {
            if (size < TAPE_SIZE) {
                code[size] = step;
                size++;
            }
        }

        private void endPart(int part) {
            if (within(part, 0, PARTS - 1)) {
                ends[part] = size;
            }
        }

        private void becomeLike(Rule other) {
            System.arraycopy(other.code, 0, code, 0, TAPE_SIZE);
            System.arraycopy(other.ends, 0, ends, 0, PARTS);
            size = other.size;
        }

        private int value(int part, int[] names, int[] stack) {
            if (!within(part, 0, PARTS - 1)) {
                return 0;
            }
            int top = 0;
            for (int i = part == 0 ? 0 : ends[part - 1]; i < ends[part]; i++) {
                int step = code[i];
                if (step >= 0 || Token.isName(step)) {
                    if (top < stack.length) {
                        stack[top] = step >= 0 ? step : names[Token.nameIndex(step)];
                        top++;
                    }
                } else if (step == Token.NOT || step == Token.OPPOSITE) {
                    if (top >= 1) {
                        stack[top - 1] = turnedRound(step, stack[top - 1]);
                    }
                } else if (top >= 2) {
                    stack[top - 2] = joined(step, stack[top - 2], stack[top - 1]);
                    top--;
                }
            }
            return top >= 1 ? stack[0] : 0;
        }

        private static int turnedRound(int step, int a) {
            if (step == Token.OPPOSITE) {
                return -a;
            }
            return a == 0 ? 1 : 0;
        }

        private static int joined(int step, int a, int b) {
            switch (step) {
                case Token.OR:
                    return a != 0 || b != 0 ? 1 : 0;
                case Token.AND:
                    return a != 0 && b != 0 ? 1 : 0;
                case Token.LESS:
                    return a < b ? 1 : 0;
                case Token.LIKE:
                    return a == b ? 1 : 0;
                case Token.PLUS:
                    return a + b;
                case Token.MINUS:
                    return a - b;
                default:
                    return a * b;
            }
        }
    }

    /** The tape, and how a text is read from it; after a fault no token is accepted any more. */
    private static final class Reader {
        private static final int MOST_OPEN = 5;
        private static final int MOST_DIGITS = 4;

        private final int[] tape = new int[TAPE_SIZE];
        private final Rule rule = new Rule();
        private int size = 0;
        private int token = Token.END;
        private int place = 0;
        private int behind = 0;
        private int number = 0;
        private int fault = NONE;

        private boolean append(int letter) {
            if (size >= TAPE_SIZE) {
                return false;
            }
            tape[size] = letter;
            size++;
            return true;
        }

        /** Empties the tape; the rule is a whole one only if there was no fault (NONE). */
        private int readTape() {
            rule.size = 0;
            behind = 0;
            fault = NONE;
            advance();
            for (int part = 0; part < Rule.PARTS; part++) {
                accept(Token.SLACK + part);
                readOr(0);
                accept(Token.SEMICOLON);
                rule.endPart(part);
            }
            if (token != Token.END) {
                fail();
            }
            size = 0;
            return fault;
        }

        private void readOr(int open) {
            readAnd(open);
            for (int i = 0; i < TAPE_SIZE && token == Token.OR; i++) {
                advance();
                readAnd(open);
                rule.append(Token.OR);
            }
        }

        private void readAnd(int open) {
            readNot(open);
            for (int i = 0; i < TAPE_SIZE && token == Token.AND; i++) {
                advance();
                readNot(open);
                rule.append(Token.AND);
            }
        }

        private void readNot(int open) {
            if (token == Token.NOT) {
                if (open >= MOST_OPEN) {
                    fail();
                    return;
                }
                advance();
                readNot(open + 1);
                rule.append(Token.NOT);
                return;
            }
            readSum(open);
            if (token == Token.LESS || token == Token.LIKE) {
                int step = token;
                advance();
                readSum(open);
                rule.append(step);
            }
        }

        private void readSum(int open) {
            readTerm(open);
            for (int i = 0; i < TAPE_SIZE && (token == Token.PLUS || token == Token.MINUS); i++) {
                int step = token;
                advance();
                readTerm(open);
                rule.append(step);
            }
        }

        private void readTerm(int open) {
            readOne(open);
            for (int i = 0; i < TAPE_SIZE && token == Token.TIMES; i++) {
                advance();
                readOne(open);
                rule.append(Token.TIMES);
            }
        }

        private void readOne(int open) {
            if (token == Token.NUMBER) {
                rule.append(number);
                advance();
            } else if (Token.isName(token)) {
                rule.append(token);
                advance();
            } else if (token == Token.MINUS && open < MOST_OPEN) {
                advance();
                readOne(open + 1);
                rule.append(Token.OPPOSITE);
            } else if (token == Token.OPENING && open < MOST_OPEN) {
                advance();
                readOr(open + 1);
                accept(Token.CLOSING);
            } else {
                fail();
            }
        }

        private void accept(int wanted) {
            if (token == wanted) {
                advance();
            } else {
                fail();
            }
        }

        private void fail() {
            if (fault == NONE) {
                fault = place;
            }
            token = Token.BROKEN;
        }

        private void advance() {
            place = behind;
            while (place < size && (tape[place] == 32 || tape[place] == 10)) {
                place++;
            }
            behind = place;
            if (place >= size) {
                token = Token.END;
            } else if (within(tape[place], 'a', 'z')) {
                behind = endOfRun('a', 'z');
                token = wordToken();
            } else if (within(tape[place], '0', '9')) {
                behind = endOfRun('0', '9');
                token = numberToken();
            } else {
                behind = place + 1;
                token = Token.ofSign(tape[place]);
            }
        }

        private int endOfRun(int least, int most) {
            int end = place;
            while (end < size && within(tape[end], least, most)) {
                end++;
            }
            return end;
        }

        private int numberToken() {
            if (behind - place > MOST_DIGITS) {
                return Token.BROKEN;
            }
            number = 0;
            for (int i = place; i < behind; i++) {
                number = number * 10 + tape[i] - '0';
            }
            return Token.NUMBER;
        }

        private int wordToken() {
            if (spells("slack")) {
                return Token.SLACK;
            }
            if (spells("worth")) {
                return Token.WORTH;
            }
            if (spells("spills")) {
                return Token.SPILLS;
            }
            if (spells("or")) {
                return Token.OR;
            }
            if (spells("and")) {
                return Token.AND;
            }
            if (spells("not")) {
                return Token.NOT;
            }
            if (spells("rock")) {
                return Token.ROCK;
            }
            if (spells("lean")) {
                return Token.LEAN;
            }
            if (spells("turn")) {
                return Token.TURN;
            }
            if (spells("y")) {
                return Token.Y;
            }
            if (spells("x")) {
                return Token.X;
            }
            return spells("give") ? Token.GIVE : Token.BROKEN;
        }

        private boolean spells(String word) {
            if (behind - place != word.length()) {
                return false;
            }
            for (int i = 0; i < word.length(); i++) {
                if (tape[place + i] != word.charAt(i)) {
                    return false;
                }
            }
            return true;
        }
    }

    private static final class Sheet {
        private int sort = NONE;
        private int size = 0;
        private final int[] items = new int[MOST_ITEMS];

        private boolean isMissing() {
            return sort == NONE;
        }

        private void vanish() {
            sort = NONE;
            size = 0;
        }

        private void become(int newSort, int newSize) {
            sort = newSort;
            size = held(newSize, 0, MOST_ITEMS);
            for (int i = 0; i < MOST_ITEMS; i++) {
                items[i] = 0;
            }
        }

        private boolean hasItem(int i) {
            return i >= 0 && i < size;
        }

        private boolean hasItems(int i, int n) {
            return i >= 0 && n >= 0 && i <= size - n;
        }

        private void put(int i, int v) {
            if (!hasItem(i)) {
                return;
            }
            if (sort == 0) {
                items[i] = (byte) v;
            } else if (sort == 1) {
                items[i] = (short) v;
            } else {
                items[i] = v;
            }
        }
    }
}
