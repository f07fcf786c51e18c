import java.util.Random;

/** Long runs of calls, made of fixed seeds: the program answers each as the model does. */
public final class ModelTest {
    private static final int RUNS = 400;
    private static final int TEXT_RUNS = 3000;
    private static final int CALLS = 512;
    private static final int METHODS = 33;
    private static final String[] NAMES = {"rock", "lean", "turn", "y", "x", "give"};
    private static final String STRAY = "()+-*<=; \nabnortk059A;?";

    private final Random random;
    private final TableRocks x = new TableRocks();
    private final Model m = new Model();
    private final boolean isSmall;
    private int calls = 0;

    private ModelTest(long seed) {
        random = new Random(seed);
        isSmall = seed % 2 == 0;
    }

    public static void main(String[] args) {
        for (int run = 0; run < RUNS; run++) {
            ModelTest test = new ModelTest(run);
            while (test.calls < CALLS) {
                test.call(run);
            }
        }
        for (int run = RUNS; run < RUNS + TEXT_RUNS; run++) {
            ModelTest test = new ModelTest(run);
            if (run % 3 == 0) {
                test.readMany("run " + run);
            } else {
                test.standBy("run " + run);
            }
        }
        Due.end("ModelTest");
    }

    private void same(String call, long got, long want) {
        calls++;
        if (calls <= CALLS) {
            Due.is(call, got, want);
        }
    }

    /** Mostly from least to most; at times at or beyond the ends, or far away. */
    private int some(int least, int most) {
        switch (random.nextInt(60)) {
            case 0: return least - 1;
            case 1: return most + 1;
            case 2: return random.nextInt();
            case 3: return random.nextBoolean() ? Integer.MIN_VALUE : Integer.MAX_VALUE;
            case 4: return least;
            case 5: return most;
            default: return least + random.nextInt(most - least + 1);
        }
    }

    private int height() {
        return isSmall ? random.nextInt(4) : some(0, 99);
    }

    private void call(int run) {
        int method = random.nextInt(METHODS + 3);
        String call = "run " + run + " call " + calls + " method " + method;
        if (method < 12) {
            callFloorOrText(call, method);
        } else if (method < 24) {
            callStandsOrDone(call, method);
        } else {
            callRest(call, method);
        }
    }

    private void callFloorOrText(String call, int method) {
        int a = some(0, 3);
        int b;
        int c;
        switch (method) {
            case 0:
            case 1:
            case 2:
                a = random.nextInt(4) == 0 ? some(0, 63) : m.told(random.nextInt(4), 4);
                b = height();
                same(call, x.floor(a, b), m.floor(a, b));
                break;
            case 3:
                if (random.nextInt(4) == 0) {
                    a = isSmall ? random.nextInt(3) : some(0, 99);
                    b = isSmall ? random.nextInt(3) : some(0, 99);
                    c = isSmall ? random.nextInt(2) : some(0, 99);
                    same(call, x.wave(a, b, c), m.wave(a, b, c));
                }
                break;
            case 4:
            case 5:
                b = some(0, 5);
                c = some(0, 9);
                same(call, x.leg(a, b, c), m.leg(a, b, c));
                break;
            case 6:
            case 7:
                callSet(call, a);
                break;
            case 8:
                b = some(0, 6);
                a = b == 6 ? some(0, 63) : a;
                same(call, x.told(a, b), m.told(a, b));
                break;
            case 9:
                if (random.nextInt(4) == 0) {
                    readText(call);
                }
                break;
            case 10:
                a = some(0, Math.max(1, m.count(4) - 1));
                same(call, x.force(a), m.force(a));
                break;
            default:
                a = some(0, 255);
                same(call, x.feed(a), m.feed(a));
                break;
        }
    }

    private void callSet(String call, int of) {
        int[] least = {0, 0, 0, 1, 0, 0};
        int[] most = {99, 9, 63, 3, 7, 9};
        int what = some(0, 5);
        boolean isOne = what >= 0 && what <= 5;
        int v = isOne ? some(least[what], most[what]) : 0;
        if (what == 0 && isSmall) {
            v = m.told(random.nextInt(4), 1) + random.nextInt(5) - 2;
        }
        same(call, x.set(what, of, v), m.set(what, of, v));
    }

    /** Whole texts and broken ones, as many as a run has calls for. */
    private void readMany(String call) {
        while (calls < CALLS - 162) {
            readText(call);
        }
    }

    /** One rule, and how the table stands by it here and there. */
    private void standBy(String call) {
        for (int i = 0; i < 8; i++) {
            int cell = m.told(random.nextInt(4), 4);
            int height = random.nextInt(5);
            same(call, x.floor(cell, height), m.floor(cell, height));
        }
        for (int leg = 0; leg < 4; leg++) {
            int kind = random.nextInt(3) == 0 ? random.nextInt(6) : 0;
            int number = random.nextInt(4);
            same(call, x.leg(leg, kind, number), m.leg(leg, kind, number));
            int length = 50 + (kind == 3 ? 50 : 0) + random.nextInt(3) - (kind == 2 || kind == 4 ? 3 : 1) * number;
            same(call, x.set(0, leg, length), m.set(0, leg, length));
        }
        String text = "slack " + either(1) + ";worth " + either(1) + ";spills " + either(1) + ";";
        for (int i = 0; i < text.length(); i++) {
            same(call, x.feed(text.charAt(i)), m.feed(text.charAt(i)));
        }
        int number = m.text();
        same(call + " " + text, x.text(), number);
        same(call, x.force(1), m.force(1));
        while (calls < CALLS) {
            int place = random.nextInt(3) == 0 ? random.nextInt(64) : m.count(0);
            int turn = random.nextInt(8);
            int what = random.nextInt(6);
            same(call + " " + text, x.standsAt(place, turn, what), m.standsAt(place, turn, what));
        }
    }

    private void readText(String call) {
        if (random.nextInt(8) == 0) {
            same(call, x.text(), m.text());
        }
        StringBuilder text = new StringBuilder();
        text.append("slack ").append(either(2)).append("; worth ").append(either(3));
        text.append(";spills ").append(either(2)).append(';');
        for (int i = random.nextInt(6) - 3; i > 0 && text.length() > 0; i--) {
            char stray = STRAY.charAt(random.nextInt(STRAY.length()));
            int place = random.nextInt(text.length());
            switch (random.nextInt(4)) {
                case 0: text.setCharAt(place, stray); break;
                case 1: text.insert(place, stray); break;
                case 2: text.deleteCharAt(place); break;
                default: text.setLength(place); break;
            }
        }
        for (int i = 0; i < text.length(); i++) {
            same(call, x.feed(text.charAt(i)), m.feed(text.charAt(i)));
        }
        same(call + " " + text, x.text(), m.text());
    }

    private String either(int deep) {
        return random.nextInt(4) == 0 ? both(deep) + " or " + both(deep) : both(deep);
    }

    private String both(int deep) {
        return random.nextInt(4) == 0 ? denied(deep) + " and " + denied(deep) : denied(deep);
    }

    private String denied(int deep) {
        if (random.nextInt(6) == 0) {
            return "not " + denied(deep - 1);
        }
        int sort = random.nextInt(6);
        return sort == 0 ? sum(deep) + "<" + sum(deep) : sort == 1 ? sum(deep) + " = " + sum(deep) : sum(deep);
    }

    private String sum(int deep) {
        int sort = random.nextInt(5);
        return sort == 0 ? term(deep) + "+" + term(deep) : sort == 1 ? term(deep) + " - " + term(deep) : term(deep);
    }

    private String term(int deep) {
        return random.nextInt(4) == 0 ? one(deep) + "*" + one(deep) : one(deep);
    }

    private String one(int deep) {
        int sort = random.nextInt(10);
        if (sort == 0) {
            return "-" + one(deep - 1);
        }
        if (sort < 4 && deep > -4) {
            return "(" + either(deep - 1) + ")";
        }
        if (sort < 6) {
            boolean isFar = random.nextInt(4) == 0;
            return "" + random.nextInt(!isFar ? 10 : random.nextInt(8) == 0 ? 20000 : 9999);
        }
        return NAMES[random.nextInt(NAMES.length)];
    }

    private void callStandsOrDone(String call, int method) {
        int a = some(0, 1);
        int b;
        switch (method) {
            case 12:
                a = some(0, 5);
                same(call, x.stands(a), m.stands(a));
                break;
            case 13:
                int place = some(0, 63);
                b = some(0, 7);
                a = some(0, 5);
                same(call, x.standsAt(place, b, a), m.standsAt(place, b, a));
                break;
            case 14:
                same(call, x.firm(), m.firm());
                break;
            case 15:
                same(call, x.fewest(a), m.fewest(a));
                break;
            case 16:
                same(call, x.feels(a), m.feels(a));
                break;
            case 17:
                a = some(0, 2);
                same(call, x.best(a), m.best(a));
                break;
            case 18:
                a = some(-7, 7);
                same(call, x.turn(a), m.turn(a));
                break;
            case 19:
                same(call, x.wedge(), m.wedge());
                break;
            case 20:
                same(call, x.saw(), m.saw());
                break;
            case 21:
                same(call, x.screwed(), m.screwed());
                break;
            case 22:
                same(call, x.blame(a), m.blame(a));
                break;
            default:
                same(call, x.beside(a), m.beside(a));
                break;
        }
    }

    private void callRest(String call, int method) {
        int a = some(0, 3);
        int b = some(0, 1);
        int c = random.nextInt();
        int n = some(1, 30);
        switch (method) {
            case 24:
                same(call, x.sit(), m.sit());
                break;
            case 25:
                same(call, x.judge(a), m.judge(a));
                break;
            case 26:
                same(call, x.which(a), m.which(a));
                break;
            case 27:
                same(call, x.drawn(c), m.drawn(c));
                break;
            case 28:
                c = random.nextInt(3) == 0 ? Integer.MAX_VALUE - random.nextInt(20) : c;
                same(call, x.odds(c, n, b), m.odds(c, n, b));
                break;
            case 29:
                if (random.nextBoolean()) {
                    same(call, x.image(), m.image());
                } else {
                    same(call, x.back(), m.back());
                }
                break;
            case 30:
                a = some(0, 6);
                same(call, x.count(a), m.count(a));
                break;
            case 31:
                a = random.nextInt(4);
                b = some(0, 5);
                same(call, x.taken(a, b), m.taken(a, b));
                break;
            default:
                callHost(call, a, method);
                break;
        }
    }

    private void callHost(String call, int a, int method) {
        int sort = some(0, 2);
        switch (method) {
            case 32:
                int n = random.nextInt(3) == 0 ? some(0, 40) : random.nextInt(5);
                int as = random.nextInt(8) == 0 ? -1 : sort;
                same(call, x.sheet(a, as, n), m.sheet(a, as, n));
                hear(call, a);
                break;
            case 33:
                int i = some(0, 12);
                int v = random.nextInt(4) == 0 ? random.nextInt() : random.nextInt(70);
                same(call, x.cell(a, i, v), m.cell(a, i, v));
                break;
            case 34:
                int b = some(0, 3);
                int from = some(0, 12);
                int to = some(0, 12);
                int of = some(0, 8);
                same(call, x.copy(a, from, b, to, of), m.copy(a, from, b, to, of));
                break;
            default:
                int at = some(0, 5);
                int pairs = random.nextInt(3) == 0 ? some(0, 20) : some(0, 3);
                same(call, x.floors(a, sort, at, pairs), m.floors(a, sort, at, pairs));
                break;
        }
    }

    /** Writes into a sheet what is heard indeed, so that judging goes far. */
    private void hear(String call, int sheet) {
        if (random.nextBoolean()) {
            return;
        }
        for (int i = 0; i < 12; i++) {
            int turn = (m.count(2) + i) % 8;
            int loose = m.standsAt(m.count(0), turn, 3);
            int knock = m.standsAt(m.count(0), turn, 1) == 0 ? 0 : loose == 10 ? 1 : 2;
            same(call, x.cell(sheet, i, knock), m.cell(sheet, i, knock));
        }
        same(call, x.judge(sheet), m.judge(sheet));
        same(call, x.which(sheet), m.which(sheet));
    }
}
