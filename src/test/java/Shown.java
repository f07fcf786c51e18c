import java.util.ArrayList;
import java.util.List;

/** Objects in use, and all that later calls show of one, so that two can be compared. */
final class Shown {
    private static final int SCRATCH = 3;
    private static final int SCRATCH_CELL = 20;

    private Shown() {
    }

    /** Nothing is as at first: an image is kept, a text waits on the tape, sheets 0 .. 2 have items; it rocks. */
    static TableRocks used() {
        TableRocks x = new TableRocks();
        x.wave(3, 5, 7);
        become(x, 1, 40, 11, 2, 3, 4);
        Due.text(x, "slack turn-5;worth y-rock*x;spills give;");
        x.force(1);
        x.image();
        x.wave(29, 17, 4);
        become(x, 5, 61, 44, 1, 6, 2);
        Due.text(x, "slack y-3;worth rock-lean;spills lean;");
        x.force(2);
        Due.feed(x, "slack 4;worth 5;spills 6;");
        Due.fill(x, 0, 0, 9, 0, 64);
        Due.fill(x, 1, 1, 1, 0, 2, 99);
        Due.fill(x, 2, 2, 63, 7);
        return x;
    }

    /** Six texts and 160 bytes on the tape, which begin with a whole text or with a fault. */
    static TableRocks full(String tape) {
        TableRocks x = new TableRocks();
        for (int n = 1; n <= 5; n++) {
            Due.text(x, "slack0;worth" + n + ";spills0;");
        }
        x.force(4);
        Due.feed(x, tape);
        for (int size = tape.length(); size < 160; size++) {
            x.feed(32);
        }
        return x;
    }

    private static void become(TableRocks x, int kind, int length, int place, int radius, int turn, int load) {
        for (int leg = 0; leg <= 3; leg++) {
            x.leg(leg, (kind + leg) % 6, 2 + leg);
            x.set(0, leg, length + 2 * leg);
        }
        x.set(2, 0, place);
        x.set(3, 0, radius);
        x.set(4, 0, turn);
        x.set(5, 0, load);
    }

    /** All that can be seen of it; it is not as it was then. */
    static List<Long> of(TableRocks x) {
        List<Long> all = new ArrayList<>();
        table(x, all);
        sheets(x, all);
        texts(x, all);
        int turn = x.back();
        all.add((long) turn);
        if (turn != TableRocks.STATE) {
            table(x, all);
        }
        return all;
    }

    private static void table(TableRocks x, List<Long> all) {
        for (int what = 0; what <= 6; what++) {
            all.add((long) x.count(what));
        }
        for (int leg = 0; leg <= 3; leg++) {
            for (int what = 0; what <= 2; what++) {
                all.add((long) x.told(leg, what));
            }
        }
        for (int cell = 0; cell <= 63; cell++) {
            all.add((long) x.told(cell, 6));
        }
        for (int what = 0; what <= 5; what++) {
            all.add((long) x.stands(what));
        }
    }

    private static void sheets(TableRocks x, List<Long> all) {
        all.add((long) x.judge(SCRATCH));
        for (int sheet = 0; sheet < SCRATCH; sheet++) {
            all.add((long) x.judge(sheet));
            for (int sort = 0; sort <= 2; sort++) {
                int answer = x.floors(sheet, sort, 0, 0);
                all.add((long) answer);
                if (answer == 0) {
                    items(x, sheet, sort, all);
                }
            }
        }
    }

    /** Each item as the height that it gives to a cell; where it can be none the cell keeps a height of its own. */
    private static void items(TableRocks x, int sheet, int sort, List<Long> all) {
        x.sheet(SCRATCH, sort, 2);
        x.cell(SCRATCH, 0, SCRATCH_CELL);
        for (int i = 0; i < 40; i++) {
            int answer = x.copy(sheet, i, SCRATCH, 1, 1);
            all.add((long) answer);
            if (answer != 1) {
                return;
            }
            x.floor(SCRATCH_CELL, 88);
            all.add((long) x.floors(SCRATCH, sort, 0, 1));
            all.add((long) x.told(SCRATCH_CELL, 6));
        }
    }

    private static void texts(TableRocks x, List<Long> all) {
        all.add((long) x.text());
        all.add((long) x.count(5));
        int texts = x.count(4);
        all.add((long) texts);
        for (int text = 0; text < texts; text++) {
            x.force(text);
            all.add((long) x.stands(1));
            all.add((long) x.stands(4));
            all.add((long) x.stands(5));
        }
    }
}
