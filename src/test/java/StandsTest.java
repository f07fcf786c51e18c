/** Promises 10 to 15. */
public final class StandsTest {
    private static final int NO_SUCH = -100000;
    private static final String FIRM_AT_5 = "slack 9*(turn=5);worth 0;spills 0;";

    public static void main(String[] args) {
        promise10Stands();
        howKindsGive();
        promise11StandsAt();
        promise12Firm();
        promise13Fewest();
        promise14Feels();
        promise15Best();
        Due.end("StandsTest");
    }

    private static void promise10Stands() {
        standsSo(Due.uneven(7, 3, 1, 0), 5, 5, 6, 10, -51, 16);
        standsSo(Due.uneven(1, 9, 2, 4), -10, 10, 11, 5, -101, 31);
        standsSo(Due.uneven(3, 1, 2, 4), 0, 0, 3, 0, -3, 3);
        standsSo(Due.uneven(1, 0, 0, 0), 1, 1, 1, 10, -10, 3);
        standsSo(Due.uneven(0, 0, 0, 1), -1, 1, 1, 5, -10, 3);
        standsSo(Due.uneven(0, 99, 0, 99), -198, 198, 198, 5, -999, 99);
        TableRocks x = new TableRocks();
        Due.is("stands(-1)", x.stands(-1), NO_SUCH);
        Due.is("stands(6)", x.stands(6), NO_SUCH);
    }

    private static void standsSo(TableRocks x, int... want) {
        for (int what = 0; what < want.length; what++) {
            Due.is("stands(" + what + ")", x.stands(what), want[what]);
        }
    }

    private static void howKindsGive() {
        gives(0, 3, 50, 20, 0);
        gives(1, 3, 47, 20, 3);
        gives(1, 3, 47, 5, 2);
        gives(1, 3, 47, 1, 0);
        gives(2, 3, 41, 20, 0);
        gives(3, 3, 97, 20, 4);
        gives(3, 3, 97, 5, 3);
        gives(3, 3, 97, 1, 1);
        gives(3, 0, 99, 20, 1);
        gives(4, 3, 39, 20, 0);
        gives(5, 3, 50, 20, 3);
        gives(5, 3, 50, 2, 2);
        gives(5, 9, 50, 20, 9);
    }

    /** Of a loose leg 1, and of a loose leg 3; but not of one that bears the table. */
    private static void gives(int kind, int number, int length, int gap, int give) {
        for (int leg = 0; leg < 4; leg++) {
            TableRocks x = Due.ruled("slack 0;worth give;spills rock;");
            x.floor(28, gap);
            x.leg(leg, kind, number);
            x.set(0, leg, length);
            int off = x.told(leg, 3) - 50;
            x.floor(28, gap + (leg % 2 == 0 ? -off : off));
            int due = leg % 2 == 0 ? 0 : give;
            Due.is("gap", x.stands(0), gap);
            Due.is("give of kind " + kind, x.stands(4), due);
            Due.is("rock by kind " + kind, x.stands(1), Math.max(0, gap - due));
            Due.is("spills by kind " + kind, x.stands(5), Math.max(0, gap - due));
        }
        TableRocks x = Due.ruled("slack 0;worth give;spills 0;");
        x.floor(28, 20);
        x.leg(1, 5, 4);
        x.leg(3, 5, 7);
        Due.is("give of both", x.stands(4), 11);
        Due.is("rock by both", x.stands(1), 9);
        x.floor(28, 9);
        Due.is("each gives by the whole gap", x.stands(4), 11);
        Due.is("rock is 0 at least", x.stands(1), 0);
    }

    private static void promise11StandsAt() {
        TableRocks x = new TableRocks();
        x.floor(28, 7);
        int[] here = {7, 7, 7, 10, -70, 21};
        int[] other = {-7, 7, 7, 5, -70, 21};
        for (int what = 0; what < 6; what++) {
            Due.is("standsAt(27, 0, ..)", x.standsAt(27, 0, what), here[what]);
            Due.is("standsAt(29, 4, ..)", x.standsAt(29, 4, what), here[what]);
            Due.is("standsAt(20, 0, ..)", x.standsAt(20, 0, what), other[what]);
            Due.is("standsAt(36, 4, ..)", x.standsAt(36, 4, what), other[what]);
            Due.is("standsAt(27, 6, ..)", x.standsAt(27, 6, what), other[what]);
            Due.is("standsAt(28, 0, ..)", x.standsAt(28, 0, what), 0);
            Due.is("standsAt(19, 1, ..)", x.standsAt(19, 1, what), here[what]);
            Due.is("standsAt(27, 7, ..)", x.standsAt(27, 7, what), 0);
        }
        x.floor(1, 4);
        x.floor(62, 3);
        Due.is("standsAt(0, 0, 0)", x.standsAt(0, 0, 0), 4);
        Due.is("standsAt(63, 0, 0)", x.standsAt(63, 0, 0), 3);
        Due.is("standsAt(63, 2, 0)", x.standsAt(63, 2, 0), -3);
        x.set(3, 0, 2);
        Due.is("standsAt(26, 0, 0) by radius 2", x.standsAt(26, 0, 0), 7);
        Due.is("standsAt(27, 0, 0) by radius 2", x.standsAt(27, 0, 0), 0);
        Due.is("standsAt(-1, 0, 0)", x.standsAt(-1, 0, 0), NO_SUCH);
        Due.is("standsAt(64, 0, 0)", x.standsAt(64, 0, 0), NO_SUCH);
        Due.is("standsAt(0, -1, 0)", x.standsAt(0, -1, 0), NO_SUCH);
        Due.is("standsAt(0, 8, 0)", x.standsAt(0, 8, 0), NO_SUCH);
        Due.is("standsAt(0, 0, -1)", x.standsAt(0, 0, -1), NO_SUCH);
        Due.is("standsAt(0, 0, 6)", x.standsAt(0, 0, 6), NO_SUCH);
        Due.is("it stays at its place", x.count(0), 27);
        Due.is("it stays turned", x.count(2), 0);
    }

    private static void promise12Firm() {
        TableRocks x = new TableRocks();
        Due.is("firm() on a flat floor", x.firm(), 255);
        x.floor(28, 7);
        Due.is("firm()", x.firm(), 170);
        x.floor(36, 3);
        Due.is("firm()", x.firm(), 0);
        x.floor(28, 0);
        Due.is("firm()", x.firm(), 85);
        x.set(4, 0, 1);
        Due.is("firm() however it is turned", x.firm(), 85);
        x.set(2, 0, 60);
        Due.is("firm() elsewhere", x.firm(), 255);
        x.set(2, 0, 27);
        x.set(0, 0, 55);
        x.floor(36, 0);
        x.floor(28, 5);
        Due.is("firm() by a long leg", x.firm(), 68);
        x = unevenEverywhere(FIRM_AT_5);
        Due.is("firm() by slack", x.firm(), 32);
    }

    /** A gap of 9 at every place and turn: leg 0 is that much longer. */
    private static TableRocks unevenEverywhere(String rule) {
        TableRocks x = Due.ruled(rule);
        x.set(0, 0, 59);
        return x;
    }

    private static void promise13Fewest() {
        TableRocks x = new TableRocks();
        x.set(0, 0, 55);
        x.floor(28, 5);
        int[][] due = {{2, 2}, {1, 2}, {0, 2}, {1, 2}, {2, 6}, {1, 6}, {0, 6}, {1, 6}};
        fewestSo(x, due);
        int[][] alone = {{3, 5}, {4, 5}, {3, 5}, {2, 5}, {1, 5}, {0, 5}, {1, 5}, {2, 5}};
        fewestSo(unevenEverywhere(FIRM_AT_5), alone);
        x = new TableRocks();
        x.set(0, 0, 59);
        Due.is("fewest(0), none", x.fewest(0), TableRocks.NONE);
        Due.is("fewest(1), none", x.fewest(1), TableRocks.NONE);
        Due.is("fewest(-1)", x.fewest(-1), TableRocks.BAD);
        Due.is("fewest(2)", x.fewest(2), TableRocks.BAD);
    }

    private static void fewestSo(TableRocks x, int[][] due) {
        for (int turn = 0; turn < 8; turn++) {
            x.set(4, 0, turn);
            Due.is("fewest(0) at turn " + turn, x.fewest(0), due[turn][0]);
            Due.is("fewest(1) at turn " + turn, x.fewest(1), due[turn][1]);
            Due.is("the turn stays", x.count(2), turn);
        }
    }

    private static void promise14Feels() {
        TableRocks x = new TableRocks();
        feelsSo(x, 0, 0, 1);
        x.floor(28, 7);
        feelsSo(x, 0, 1, 1);
        feelsSo(x, 1, 0, 1);
        feelsSo(x, 2, 1, 1);
        x.floor(36, 3);
        feelsSo(x, 0, 2, 0);
        feelsSo(x, 1, 1, 0);
        feelsSo(x, 2, 2, 0);
        feelsSo(x, 7, 1, 0);
        x = unevenEverywhere(FIRM_AT_5);
        int[] steps = {5, 4, 3, 2, 1, 0, 7, 6};
        for (int turn = 0; turn < 8; turn++) {
            feelsSo(x, turn, steps[turn], 1);
        }
        x = new TableRocks();
        x.set(0, 1, 59);
        feelsSo(x, 3, 8, 0);
        Due.is("feels(-1)", x.feels(-1), TableRocks.BAD);
        Due.is("feels(2)", x.feels(2), TableRocks.BAD);
    }

    private static void feelsSo(TableRocks x, int turn, int steps, int firm) {
        x.set(4, 0, turn);
        Due.is("feels(0) at turn " + turn, x.feels(0), steps);
        Due.is("feels(1) at turn " + turn, x.feels(1), firm);
        Due.is("the turn stays", x.count(2), turn);
    }

    private static void promise15Best() {
        bestSo(new TableRocks(), 0, 0, 0);
        bestSo(Due.ruled("slack 0;worth turn*10+y+x;spills 0;"), 63, 7, 84);
        bestSo(Due.ruled("slack 0;worth (turn=3)+(x=5);spills 0;"), 5, 3, 2);
        bestSo(Due.ruled("slack 0;worth (turn=3)+(y=5);spills 0;"), 40, 3, 2);
        bestSo(Due.ruled("slack 0;worth 0-turn;spills 0;"), 0, 0, 0);
        bestSo(Due.ruled("slack 0;worth 9-turn-y-x;spills 0;"), 0, 0, 9);
        bestSo(Due.ruled("slack 0;worth 0-9999+y;spills 0;"), 0, 0, -999);
        bestSo(Due.ruled("slack 0;worth turn*999;spills 0;"), 0, 1, 999);
        TableRocks x = new TableRocks();
        x.wave(1, 0, 0);
        x.set(2, 0, 44);
        x.set(4, 0, 6);
        bestSo(x, 0, 1, -1);
        Due.is("it stays at its place", x.count(0), 44);
        Due.is("it stays turned", x.count(2), 6);
        Due.is("best(-1)", x.best(-1), NO_SUCH);
        Due.is("best(3)", x.best(3), NO_SUCH);
    }

    private static void bestSo(TableRocks x, int place, int turn, int worth) {
        Due.is("best(0)", x.best(0), place);
        Due.is("best(1)", x.best(1), turn);
        Due.is("best(2)", x.best(2), worth);
    }
}
