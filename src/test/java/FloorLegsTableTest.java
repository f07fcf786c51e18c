/** Promises 1 to 6. */
public final class FloorLegsTableTest {
    public static void main(String[] args) {
        promise1NewObject();
        promise2Floor();
        promise3Wave();
        promise4Leg();
        promise5Set();
        promise6Told();
        whereLegsStand();
        howTallKindsAre();
        Due.end("FloorLegsTableTest");
    }

    private static void promise1NewObject() {
        TableRocks x = new TableRocks();
        int[] counts = {27, 1, 0, 0, 1, 0, 0};
        for (int what = 0; what < counts.length; what++) {
            Due.is("count(" + what + ")", x.count(what), counts[what]);
        }
        for (int leg = 0; leg < 4; leg++) {
            Due.is("kind", x.told(leg, 0), 0);
            Due.is("long", x.told(leg, 1), 50);
            Due.is("number", x.told(leg, 2), 0);
            Due.is("tall", x.told(leg, 3), 50);
            Due.is("stands at", x.told(leg, 5), 50);
        }
        for (int cell = 0; cell < 64; cell++) {
            Due.is("height", x.told(cell, 6), 0);
        }
        for (int sheet = 0; sheet < 4; sheet++) {
            Due.is("a sheet at first", x.judge(sheet), -11);
        }
        Due.is("back() at first", x.back(), TableRocks.STATE);
        for (int what = 0; what < 6; what++) {
            Due.is("stands(" + what + ")", x.stands(what), 0);
        }
    }

    private static void promise2Floor() {
        TableRocks x = new TableRocks();
        Due.is("floor(0, 99)", x.floor(0, 99), 0);
        Due.is("floor(0, 5)", x.floor(0, 5), 99);
        Due.is("floor(63, 0)", x.floor(63, 0), 0);
        Due.is("floor(63, 1)", x.floor(63, 1), 0);
        Due.is("floor(-1, 0)", x.floor(-1, 0), TableRocks.BAD);
        Due.is("floor(64, 0)", x.floor(64, 0), TableRocks.BAD);
        Due.is("floor(0, -1)", x.floor(0, -1), TableRocks.BAD);
        Due.is("floor(0, 100)", x.floor(0, 100), TableRocks.BAD);
        Due.is("floor(least)", x.floor(Integer.MIN_VALUE, 0), TableRocks.BAD);
        Due.is("told(0, 6)", x.told(0, 6), 5);
        Due.is("told(63, 6)", x.told(63, 6), 1);
    }

    private static void promise3Wave() {
        TableRocks x = new TableRocks();
        Due.is("wave(1, 0, 0)", x.wave(1, 0, 0), 8 * 28);
        Due.is("told(8, 6)", x.told(8, 6), 1);
        Due.is("told(1, 6)", x.told(1, 6), 0);
        Due.is("wave(0, 2, 0)", x.wave(0, 2, 0), 8 * 56);
        Due.is("told(7, 6)", x.told(7, 6), 14);
        Due.is("told(56, 6)", x.told(56, 6), 0);
        Due.is("wave(0, 0, 1)", x.wave(0, 0, 1), 28 * 28);
        Due.is("told(63, 6)", x.told(63, 6), 49);
        Due.is("wave(99, 99, 99)", x.wave(99, 99, 99) > 0 ? 1 : 0, 1);
        Due.is("told(63, 6)", x.told(63, 6), (7 * 99 + 7 * 99 + 49 * 99) % 100);
        int[][] wrong = {{-1, 0, 0}, {100, 0, 0}, {0, -1, 0}, {0, 100, 0}, {0, 0, -1}, {0, 0, 100}};
        for (int[] w : wrong) {
            Due.is("wave of a wrong one", x.wave(w[0], w[1], w[2]), TableRocks.BAD);
        }
        Due.is("told(63, 6)", x.told(63, 6), 37);
        Due.is("wave(0, 0, 0)", x.wave(0, 0, 0), 0);
        Due.is("told(63, 6)", x.told(63, 6), 0);
    }

    private static void promise4Leg() {
        TableRocks x = new TableRocks();
        x.set(0, 2, 33);
        Due.is("leg(2, 5, 9)", x.leg(2, 5, 9), 0);
        Due.is("leg(2, 4, 0)", x.leg(2, 4, 0), 5);
        Due.is("leg(2, 1, 7)", x.leg(2, 1, 7), 4);
        Due.is("kind", x.told(2, 0), 1);
        Due.is("long stays", x.told(2, 1), 33);
        Due.is("number", x.told(2, 2), 7);
        int[][] wrong = {{-1, 0, 0}, {4, 0, 0}, {0, -1, 0}, {0, 6, 0}, {0, 0, -1}, {0, 0, 10}};
        for (int[] w : wrong) {
            Due.is("leg of a wrong one", x.leg(w[0], w[1], w[2]), TableRocks.BAD);
        }
        Due.is("kind of leg 0", x.told(0, 0), 0);
        Due.is("number of leg 0", x.told(0, 2), 0);
    }

    private static void promise5Set() {
        TableRocks x = new TableRocks();
        Due.is("set(0, 3, 99)", x.set(0, 3, 99), 50);
        Due.is("set(0, 3, 0)", x.set(0, 3, 0), 99);
        Due.is("told(3, 1)", x.told(3, 1), 0);
        Due.is("set(1, 3, 9)", x.set(1, 3, 9), 0);
        Due.is("set(1, 3, 2)", x.set(1, 3, 2), 9);
        Due.is("told(3, 2)", x.told(3, 2), 2);
        Due.is("set(2, ..)", x.set(2, -7, 63), 27);
        Due.is("set(3, ..)", x.set(3, 99, 3), 1);
        Due.is("set(4, ..)", x.set(4, 4, 7), 0);
        Due.is("set(5, ..)", x.set(5, Integer.MAX_VALUE, 9), 0);
        int[] now = {63, 3, 7, 9};
        for (int i = 0; i < 4; i++) {
            Due.is("count(" + i + ")", x.count(i), now[i]);
        }
        Due.is("set(2, 0, 0)", x.set(2, 0, 0), 63);
        Due.is("set(3, 0, 1)", x.set(3, 0, 1), 3);
        Due.is("set(4, 0, 0)", x.set(4, 0, 0), 7);
        Due.is("set(5, 0, 0)", x.set(5, 0, 0), 9);
        int[][] wrong = {{-1, 0, 0}, {6, 0, 0}, {0, -1, 0}, {0, 4, 0}, {1, -1, 0}, {1, 4, 0}, {0, 0, -1},
            {0, 0, 100}, {1, 0, -1}, {1, 0, 10}, {2, 0, -1}, {2, 0, 64}, {3, 0, 0}, {3, 0, 4}, {4, 0, -1},
            {4, 0, 8}, {5, 0, -1}, {5, 0, 10}};
        for (int[] w : wrong) {
            Due.is("set of a wrong one", x.set(w[0], w[1], w[2]), TableRocks.BAD);
        }
        int[] then = {0, 1, 0, 0};
        for (int i = 0; i < 4; i++) {
            Due.is("count(" + i + ")", x.count(i), then[i]);
        }
        Due.is("told(0, 1)", x.told(0, 1), 50);
        Due.is("told(0, 2)", x.told(0, 2), 0);
    }

    private static void promise6Told() {
        TableRocks x = new TableRocks();
        x.floor(28, 8);
        x.leg(0, 2, 3);
        x.set(0, 0, 41);
        int[] told = {2, 41, 3, 50, 28, 58};
        for (int what = 0; what < told.length; what++) {
            Due.is("told(0, " + what + ")", x.told(0, what), told[what]);
        }
        Due.is("told(28, 6)", x.told(28, 6), 8);
        int[][] wrong = {{-1, 0}, {4, 0}, {4, 5}, {0, -1}, {0, 7}, {-1, 6}, {64, 6}, {64, 7}};
        for (int[] w : wrong) {
            Due.is("told(" + w[0] + ", " + w[1] + ")", x.told(w[0], w[1]), TableRocks.BAD);
        }
    }

    private static void whereLegsStand() {
        TableRocks x = new TableRocks();
        int[] around = {28, 36, 35, 34, 26, 18, 19, 20};
        int[] aroundFar = {30, 54, 51, 48, 24, 0, 3, 6};
        int[] aroundFirst = {1, 9, 8, 8, 0, 0, 0, 1};
        int[] aroundLast = {63, 63, 63, 60, 60, 36, 39, 39};
        for (int turn = 0; turn < 8; turn++) {
            x.set(4, 0, turn);
            standsBy(x, 27, 1, turn, around);
            standsBy(x, 27, 3, turn, aroundFar);
            standsBy(x, 0, 1, turn, aroundFirst);
            standsBy(x, 63, 3, turn, aroundLast);
        }
    }

    private static void standsBy(TableRocks x, int place, int radius, int turn, int[] ways) {
        x.set(2, 0, place);
        x.set(3, 0, radius);
        for (int leg = 0; leg < 4; leg++) {
            Due.is("cell of leg " + leg + " at turn " + turn, x.told(leg, 4), ways[(turn + 2 * leg) % 8]);
        }
    }

    private static void howTallKindsAre() {
        tall(0, 9, 9, 20, 20);
        tall(1, 5, 7, 20, 22);
        tall(2, 5, 7, 20, 35);
        tall(3, 5, 7, 20, 11);
        tall(3, 6, 7, 20, 11);
        tall(3, 5, 1, 20, 12);
        tall(4, 5, 7, 20, 37);
        tall(5, 5, 3, 20, 5);
        tall(5, 9, 9, 20, 0);
        tall(1, 0, 9, 3, 0);
        tall(3, 0, 9, 3, 0);
        tall(4, 9, 0, 99, 128);
        tall(5, 5, 0, 20, 20);
    }

    private static void tall(int kind, int number, int load, int length, int want) {
        TableRocks x = new TableRocks();
        x.leg(1, kind, number);
        x.set(0, 1, length);
        x.set(5, 0, load);
        x.floor(35, 4);
        Due.is("tall of kind " + kind, x.told(1, 3), want);
        Due.is("stands at, of kind " + kind, x.told(1, 5), want + 4);
    }
}
