/** Promises 30 to 34. */
public final class HostTest {
    private static final int NOTHING = -11;
    private static final int OUTSIDE = -12;
    private static final int UNLIKE = -13;
    private static final int BELOW = -14;

    public static void main(String[] args) {
        promise30Sheet();
        promise31Cell();
        promise32Copy();
        promise33Floors();
        promise34Taken();
        Due.end("HostTest");
    }

    private static void promise30Sheet() {
        TableRocks x = new TableRocks();
        Due.is("sheet(-1, 0, 1)", x.sheet(-1, 0, 1), TableRocks.BAD);
        Due.is("sheet(4, 0, 1)", x.sheet(4, 0, 1), TableRocks.BAD);
        Due.is("sheet(0, -2, 1)", x.sheet(0, -2, 1), TableRocks.BAD);
        Due.is("sheet(0, 3, 1)", x.sheet(0, 3, 1), TableRocks.BAD);
        Due.is("sheet(0, 0, 41)", x.sheet(0, 0, 41), TableRocks.BAD);
        Due.is("sheet(0, 0, -1)", x.sheet(0, 0, -1), BELOW);
        Due.is("sheet(4, 0, -1)", x.sheet(4, 0, -1), TableRocks.BAD);
        Due.is("sheet(0, 3, -1)", x.sheet(0, 3, -1), TableRocks.BAD);
        Due.is("it is still missing", x.judge(0), NOTHING);
        for (int sheet = 0; sheet < 4; sheet++) {
            Due.is("sheet(.., 2, 40)", x.sheet(sheet, 2, 40), 1);
            Due.is("its last item", x.cell(sheet, 39, 5), 1);
            Due.is("an item behind it", x.cell(sheet, 40, 5), OUTSIDE);
        }
        Due.is("its items are 0, but the last", x.judge(0), 39);
        Due.is("sheet(0, 0, -1)", x.sheet(0, 0, -1), BELOW);
        Due.is("sheet(0, 0, 41)", x.sheet(0, 0, 41), TableRocks.BAD);
        Due.is("it stays", x.judge(0), 39);
        Due.is("sheet(0, 2, 40)", x.sheet(0, 2, 40), 1);
        Due.is("its items are 0 anew", x.judge(0), TableRocks.NONE);
        x.cell(0, 0, 1);
        Due.is("sheet(0, 2, 40)", x.sheet(0, 2, 40), 1);
        Due.is("its first item is 0 anew", x.judge(0), TableRocks.NONE);
        Due.is("sheet(0, 1, 0)", x.sheet(0, 1, 0), 1);
        Due.is("it has no item", x.cell(0, 0, 0), OUTSIDE);
        Due.is("sheet(0, -1, 99)", x.sheet(0, -1, 99), 1);
        Due.is("it is missing", x.judge(0), NOTHING);
        Due.is("sheet(0, -1, -9)", x.sheet(0, -1, -9), 1);
        Due.is("the others stay", x.judge(1), 39);
    }

    private static void promise31Cell() {
        TableRocks x = new TableRocks();
        Due.is("cell(-1, 0, 0)", x.cell(-1, 0, 0), TableRocks.BAD);
        Due.is("cell(4, 0, 0)", x.cell(4, 0, 0), TableRocks.BAD);
        Due.is("cell(0, 0, 0)", x.cell(0, 0, 0), NOTHING);
        Due.is("cell(0, -1, 0)", x.cell(0, -1, 0), NOTHING);
        x.sheet(0, 0, 3);
        Due.is("cell(0, -1, 0)", x.cell(0, -1, 0), OUTSIDE);
        Due.is("cell(0, 3, 0)", x.cell(0, 3, 0), OUTSIDE);
        Due.is("cell(0, least, 0)", x.cell(0, Integer.MIN_VALUE, 0), OUTSIDE);
        keeps(0, 256 + 7, 7);
        keeps(0, -256 + 99, 99);
        keeps(0, 127, -1);
        keeps(0, 255, -1);
        keeps(0, 128 + 64, -1);
        keeps(1, 65536 + 7, 7);
        keeps(1, 256 + 7, -1);
        keeps(1, 65535, -1);
        keeps(2, 65536 + 7, -1);
        keeps(2, 99, 99);
        keeps(2, 100, -1);
    }

    /** An item shows itself as the height that it gives to a cell; -1: it can be none. */
    private static void keeps(int sort, int v, int height) {
        TableRocks x = new TableRocks();
        Due.fill(x, 2, sort, 9, v);
        Due.is("floors() of " + v, x.floors(2, sort, 0, 1), height < 0 ? 0 : 1);
        Due.is("height of " + v, x.told(9, 6), Math.max(0, height));
        Due.fill(x, 2, sort, v, 9);
        boolean isCell = height >= 0 && height < 64;
        Due.is("floors() of cell " + v, x.floors(2, sort, 0, 1), isCell ? 1 : 0);
    }

    private static void promise32Copy() {
        TableRocks x = new TableRocks();
        Due.fill(x, 0, 2, 0, 1, 0, 2, 0);
        Due.fill(x, 1, 2, 5, 5, 5);
        Due.fill(x, 2, 1, 5, 5, 5);
        int[][] refused = {{-1, 0, 0, 0, 0, -2}, {4, 0, 0, 0, 0, -2}, {0, 0, -1, 0, 0, -2}, {0, 0, 4, 0, 0, -2},
            {3, 0, 4, 0, 0, -2}, {3, 0, 0, 0, 0, NOTHING}, {0, 0, 3, 0, 0, NOTHING}, {3, 0, 3, 0, 9, NOTHING},
            {0, 0, 2, 0, 1, UNLIKE}, {2, 0, 0, 0, 99, UNLIKE}, {0, 0, 1, 0, -1, OUTSIDE},
            {0, -1, 1, 0, 1, OUTSIDE}, {0, 0, 1, -1, 1, OUTSIDE}, {0, 3, 1, 0, 3, OUTSIDE},
            {0, 0, 1, 1, 3, OUTSIDE}, {0, 6, 1, 0, 0, OUTSIDE}, {0, 0, 1, 4, 0, OUTSIDE},
            {0, 1, 1, 0, Integer.MAX_VALUE, OUTSIDE}, {0, Integer.MAX_VALUE, 1, 0, 1, OUTSIDE},
            {0, 0, 1, Integer.MAX_VALUE, 1, OUTSIDE}, {0, 0, 1, 0, Integer.MIN_VALUE, OUTSIDE}};
        for (int[] r : refused) {
            Due.is("copy, refused", x.copy(r[0], r[1], r[2], r[3], r[4]), r[5]);
        }
        isRow(x, 1, 2, 5, 5, 5);
        Due.is("copy(0, 5, 1, 3, 0)", x.copy(0, 5, 1, 3, 0), 0);
        Due.is("copy(0, 1, 1, 0, 3)", x.copy(0, 1, 1, 0, 3), 3);
        isRow(x, 1, 2, 1, 0, 2);
        isRow(x, 0, 2, 0, 1, 0, 2, 0);
        Due.is("copy(0, 0, 0, 1, 4)", x.copy(0, 0, 0, 1, 4), 4);
        isRow(x, 0, 2, 0, 0, 1, 0, 2);
        Due.is("copy(0, 2, 0, 0, 3)", x.copy(0, 2, 0, 0, 3), 3);
        isRow(x, 0, 2, 1, 0, 2, 0, 2);
        Due.is("copy(0, 0, 0, 0, 5)", x.copy(0, 0, 0, 0, 5), 5);
        isRow(x, 0, 2, 1, 0, 2, 0, 2);
    }

    /** Each item shows itself as the height of cell 20, put together with it in sheet 3. */
    private static void isRow(TableRocks x, int sheet, int sort, int... items) {
        for (int i = 0; i < items.length; i++) {
            Due.fill(x, 3, sort, 20, 0);
            Due.is("copy of one", x.copy(sheet, i, 3, 1, 1), 1);
            Due.is("floors", x.floors(3, sort, 0, 1), 1);
            Due.is("item " + i, x.told(20, 6), items[i]);
        }
        Due.is("an item behind", x.copy(sheet, items.length, 3, 1, 1), OUTSIDE);
        x.sheet(3, -1, 0);
    }

    private static void promise33Floors() {
        TableRocks x = new TableRocks();
        Due.is("floors, missing", x.floors(0, 0, 0, 0), NOTHING);
        Due.is("floors, missing", x.floors(0, 2, -5, 3), NOTHING);
        Due.fill(x, 0, 1, 0, 5, 64, 1, 5, 100, 63, 99, -1, 4, 6, -1, 7);
        int[][] refused = {{-1, 1, 0, 1, -2}, {4, 1, 0, 1, -2}, {0, -1, 0, 1, -2}, {0, 3, 0, 1, -2},
            {0, 1, 0, -1, -2}, {0, 1, 0, 21, -2}, {1, 3, 0, 0, -2}, {0, 0, 0, 0, UNLIKE}, {0, 2, -1, 1, UNLIKE},
            {0, 1, -1, 1, OUTSIDE}, {0, 1, 13, 1, OUTSIDE}, {0, 1, 12, 1, OUTSIDE},
            {0, 1, Integer.MAX_VALUE, 1, OUTSIDE}, {0, 1, Integer.MIN_VALUE, 2, OUTSIDE}};
        for (int[] r : refused) {
            Due.is("floors, refused", x.floors(r[0], r[1], r[2], r[3]), r[4]);
        }
        Due.is("floors(0, 1, 99, 0)", x.floors(0, 1, 99, 0), 0);
        Due.is("height of cell 0", x.told(0, 6), 0);
        Due.is("floors(0, 1, 0, 6)", x.floors(0, 1, 0, 6), 2);
        heights(x, 0, 5, 5, 0, 6, 0, 7, 0, 63, 99);
        x.wave(0, 0, 0);
        Due.is("floors(0, 1, 1, 6)", x.floors(0, 1, 1, 6), 3);
        heights(x, 0, 0, 1, 5, 4, 6, 5, 64);
        x.wave(0, 0, 0);
        Due.is("floors(0, 1, 0, 7)", x.floors(0, 1, 0, 7), OUTSIDE);
        heights(x, 0, 5, 63, 99, 7, 0);
        Due.is("floors(0, 1, 4, 20)", x.floors(0, 1, 4, 20), OUTSIDE);
        x.wave(0, 0, 0);
        Due.fill(x, 2, 0, 3, 1, 3, 2, 4, 9);
        Due.is("floors(2, 0, 0, 2)", x.floors(2, 0, 0, 2), 2);
        heights(x, 3, 2, 4, 0);
        Due.is("floors(2, 0, 2, 2)", x.floors(2, 0, 2, 2), 2);
        heights(x, 3, 2, 4, 9);
        x.sheet(1, 2, 40);
        Due.is("floors(1, 2, 0, 20)", x.floors(1, 2, 0, 20), 20);
        Due.is("floors(1, 2, 1, 20)", x.floors(1, 2, 1, 20), OUTSIDE);
    }

    private static void heights(TableRocks x, int... pairs) {
        for (int i = 0; i < pairs.length; i += 2) {
            Due.is("height of cell " + pairs[i], x.told(pairs[i], 6), pairs[i + 1]);
        }
    }

    private static void promise34Taken() {
        int[][] kindsAbove = {{0}, {1, 0}, {2, 0}, {3, 1, 0}, {4, 2, 0}, {5, 0}};
        TableRocks x = new TableRocks();
        for (int kind = 0; kind < 6; kind++) {
            x.leg(3, kind, 1);
            x.set(0, 3, 20 + kind);
            for (int k = 0; k < 6; k++) {
                int due = UNLIKE;
                for (int above : kindsAbove[kind]) {
                    due = above == k ? 20 + kind : due;
                }
                Due.is("kind " + kind + " taken for " + k, x.taken(3, k), due);
            }
        }
        Due.is("taken(0, -1)", x.taken(0, -1), TableRocks.BAD);
        Due.is("taken(0, 6)", x.taken(0, 6), TableRocks.BAD);
        Due.is("taken(4, 6)", x.taken(4, 6), TableRocks.BAD);
        Due.is("taken(-1, 0)", x.taken(-1, 0), NOTHING);
        Due.is("taken(4, 5)", x.taken(4, 5), NOTHING);
    }
}
