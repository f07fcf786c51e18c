import java.util.ArrayList;
import java.util.Arrays;
import java.util.List;
import java.util.function.ToIntFunction;

/** The document told a second time, by other means than the program's, to compare the two. */
final class Model {
    static final int NONE = -1, BAD = -2, STATE = -3, FULL = -4;
    static final long NO = -4611686018427387904L;

    /** LEG, FELT, SCREW, WORN, CASTER, SPRUNG as classes under one another. */
    static class Leg {
        int lng = 50;
        int number;

        int rawTall(int w) {
            return lng;
        }

        int rawGives(int g) {
            return 0;
        }
    }

    static class Felt extends Leg {
        @Override
        int rawTall(int w) {
            return super.rawTall(w) + number - w / 2;
        }

        @Override
        int rawGives(int g) {
            return Math.min(g / 2, number);
        }
    }

    static class Screw extends Leg {
        @Override
        int rawTall(int w) {
            return super.rawTall(w) + 3 * number;
        }
    }

    static final class Worn extends Felt {
        @Override
        int rawTall(int w) {
            return super.rawTall(w) / 2;
        }

        @Override
        int rawGives(int g) {
            return super.rawGives(g) + 1;
        }
    }

    static final class Caster extends Screw {
        @Override
        int rawTall(int w) {
            return super.rawTall(w) + 2;
        }
    }

    static final class Sprung extends Leg {
        @Override
        int rawTall(int w) {
            return super.rawTall(w) - w * number;
        }

        @Override
        int rawGives(int g) {
            return Math.min(g, number);
        }
    }

    private static final List<Class<? extends Leg>> KINDS =
            List.of(Leg.class, Felt.class, Screw.class, Worn.class, Caster.class, Sprung.class);

    private static Leg make(int kind) {
        switch (kind) {
            case 0: return new Leg();
            case 1: return new Felt();
            case 2: return new Screw();
            case 3: return new Worn();
            case 4: return new Caster();
            default: return new Sprung();
        }
    }

    /** What a text asks of: rock, lean, turn, y, x, give. */
    record View(int rock, int lean, int turn, int y, int x, int give) {
    }

    record Text(ToIntFunction<View> slack, ToIntFunction<View> worth, ToIntFunction<View> spills) {
    }

    static final class Fault extends RuntimeException {
        private static final long serialVersionUID = 1;
        final int place;

        Fault(int place) {
            this.place = place;
        }
    }

    record Word(String text, int place) {
    }

    /** All tokens first; what begins none is a word of its own that fits nowhere. */
    private static List<Word> words(String tape) {
        List<Word> words = new ArrayList<>();
        int i = 0;
        while (i < tape.length()) {
            char c = tape.charAt(i);
            if (c == 32 || c == 10) {
                i++;
                continue;
            }
            int from = i++;
            String run = c >= 'a' && c <= 'z' ? "abcdefghijklmnopqrstuvwxyz"
                    : c >= '0' && c <= '9' ? "0123456789" : "";
            while (i < tape.length() && run.indexOf(tape.charAt(i)) >= 0) {
                i++;
            }
            words.add(new Word(tape.substring(from, i), from));
        }
        words.add(new Word("", tape.length()));
        return words;
    }

    private static final class Parser {
        private final List<Word> words;
        private int at;
        private int open;

        Parser(String tape) {
            words = words(tape);
        }

        String next() {
            return words.get(at).text();
        }

        Fault fault() {
            return new Fault(words.get(at).place());
        }

        boolean takes(String... wanted) {
            if (Arrays.asList(wanted).contains(next())) {
                at++;
                return true;
            }
            return false;
        }

        void needs(String wanted) {
            if (!takes(wanted)) {
                throw fault();
            }
        }

        Text whole() {
            needs("slack");
            ToIntFunction<View> slack = either();
            needs(";");
            needs("worth");
            ToIntFunction<View> worth = either();
            needs(";");
            needs("spills");
            ToIntFunction<View> spills = either();
            needs(";");
            if (!next().isEmpty()) {
                throw fault();
            }
            return new Text(slack, worth, spills);
        }

        ToIntFunction<View> either() {
            ToIntFunction<View> all = both();
            while (takes("or")) {
                ToIntFunction<View> a = all;
                ToIntFunction<View> b = both();
                all = v -> (a.applyAsInt(v) != 0 | b.applyAsInt(v) != 0) ? 1 : 0;
            }
            return all;
        }

        ToIntFunction<View> both() {
            ToIntFunction<View> all = denied();
            while (takes("and")) {
                ToIntFunction<View> a = all;
                ToIntFunction<View> b = denied();
                all = v -> (a.applyAsInt(v) != 0 & b.applyAsInt(v) != 0) ? 1 : 0;
            }
            return all;
        }

        void opens() {
            if (open == 5) {
                throw fault();
            }
            open++;
            at++;
        }

        ToIntFunction<View> denied() {
            if (next().equals("not")) {
                opens();
                ToIntFunction<View> a = denied();
                open--;
                return v -> a.applyAsInt(v) == 0 ? 1 : 0;
            }
            ToIntFunction<View> a = sum();
            if (takes("<")) {
                ToIntFunction<View> b = sum();
                return v -> a.applyAsInt(v) < b.applyAsInt(v) ? 1 : 0;
            }
            if (takes("=")) {
                ToIntFunction<View> b = sum();
                return v -> a.applyAsInt(v) == b.applyAsInt(v) ? 1 : 0;
            }
            return a;
        }

        ToIntFunction<View> sum() {
            ToIntFunction<View> all = term();
            while (next().equals("+") || next().equals("-")) {
                ToIntFunction<View> a = all;
                if (takes("+")) {
                    ToIntFunction<View> b = term();
                    all = v -> a.applyAsInt(v) + b.applyAsInt(v);
                } else {
                    needs("-");
                    ToIntFunction<View> b = term();
                    all = v -> a.applyAsInt(v) - b.applyAsInt(v);
                }
            }
            return all;
        }

        ToIntFunction<View> term() {
            ToIntFunction<View> all = one();
            while (takes("*")) {
                ToIntFunction<View> a = all;
                ToIntFunction<View> b = one();
                all = v -> a.applyAsInt(v) * b.applyAsInt(v);
            }
            return all;
        }

        ToIntFunction<View> one() {
            String word = next();
            if (word.matches("[0-9]{1,4}")) {
                int number = Integer.parseInt(word);
                at++;
                return v -> number;
            }
            if (word.equals("-")) {
                opens();
                ToIntFunction<View> a = one();
                open--;
                return v -> -a.applyAsInt(v);
            }
            if (word.equals("(")) {
                opens();
                ToIntFunction<View> a = either();
                needs(")");
                open--;
                return a;
            }
            if (takes("rock")) {
                return View::rock;
            }
            if (takes("lean")) {
                return View::lean;
            }
            if (takes("turn")) {
                return View::turn;
            }
            if (takes("y")) {
                return View::y;
            }
            if (takes("x")) {
                return View::x;
            }
            if (takes("give")) {
                return View::give;
            }
            throw fault();
        }
    }

    record Standing(int gap, int rock, int lean, int loose, int worth, int spills) {
        boolean firm() {
            return rock == 0;
        }
    }

    private int[][] height = new int[8][8];
    private Leg[] legs = {new Leg(), new Leg(), new Leg(), new Leg()};
    private int py = 3;
    private int px = 3;
    private int radius = 1;
    private int turned;
    private int load;
    private int rule;
    private final StringBuilder tape = new StringBuilder();
    private final List<Text> texts = new ArrayList<>();
    private Runnable restore;
    private int restoredTurn;
    private final long[][] sheets = new long[4][];
    private final int[] sorts = {-1, -1, -1, -1};

    Model() {
        texts.add(new Parser("slack 0 ; worth 0 - rock * 9 - lean ; spills lean + rock * 2 ;").whole());
    }

    private static boolean out(long v, long least, long most) {
        return v < least || v > most;
    }

    private static int bound(int v, int least, int most) {
        return Math.min(most, Math.max(least, v));
    }

    private int[] beneath(int leg, int y, int x, int t) {
        double angle = Math.PI / 4 * (t + 2 * leg);
        int dy = (int) Math.signum(Math.round(Math.sin(angle) * 10));
        int dx = (int) Math.signum(Math.round(Math.cos(angle) * 10));
        return new int[] {bound(y + radius * dy, 0, 7), bound(x + radius * dx, 0, 7)};
    }

    private int tall(int leg) {
        return Math.max(0, legs[leg].rawTall(load));
    }

    private int at(int leg, int y, int x, int t) {
        int[] c = beneath(leg, y, x, t);
        return height[c[0]][c[1]] + tall(leg);
    }

    private Standing stand(int y, int x, int t) {
        int[] h = new int[4];
        for (int k = 0; k < 4; k++) {
            h[k] = at(k, y, x, t);
        }
        int gap = h[0] + h[2] - (h[1] + h[3]);
        int size = gap < 0 ? -gap : gap;
        int give = 0;
        int loose = 0;
        int[] plane = h.clone();
        if (gap > 0) {
            give = Math.max(0, legs[1].rawGives(size)) + Math.max(0, legs[3].rawGives(size));
            loose = 0b1010;
            plane[3] = h[0] + h[2] - h[1];
        } else if (gap < 0) {
            give = Math.max(0, legs[0].rawGives(size)) + Math.max(0, legs[2].rawGives(size));
            loose = 0b0101;
            plane[2] = h[1] + h[3] - h[0];
        }
        Text text = texts.get(rule);
        int slack = bound(text.slack().applyAsInt(new View(size, 0, t, y, x, give)), 0, 9);
        int rock = size <= slack ? 0 : Math.max(0, size - give);
        int lean = Arrays.stream(plane).max().getAsInt() - Arrays.stream(plane).min().getAsInt();
        View view = new View(rock, lean, t, y, x, give);
        return new Standing(gap, rock, lean, loose, bound(text.worth().applyAsInt(view), -999, 999),
                bound(text.spills().applyAsInt(view), 0, 99));
    }

    private Standing here(int t) {
        return stand(py, px, t & 7);
    }

    int floor(int cell, int v) {
        if (out(cell, 0, 63) || out(v, 0, 99)) {
            return BAD;
        }
        int was = height[cell / 8][cell % 8];
        height[cell / 8][cell % 8] = v;
        return was;
    }

    int wave(int a, int b, int c) {
        if (out(a, 0, 99) || out(b, 0, 99) || out(c, 0, 99)) {
            return BAD;
        }
        int all = 0;
        for (int y = 0; y < 8; y++) {
            for (int x = 0; x < 8; x++) {
                all += height[y][x] = (y * a + x * b + y * x * c) % 100;
            }
        }
        return all;
    }

    int leg(int leg, int kind, int number) {
        if (out(leg, 0, 3) || out(kind, 0, 5) || out(number, 0, 9)) {
            return BAD;
        }
        int was = KINDS.indexOf(legs[leg].getClass());
        Leg made = make(kind);
        made.lng = legs[leg].lng;
        made.number = number;
        legs[leg] = made;
        return was;
    }

    int set(int what, int of, int v) {
        int[] least = {0, 0, 0, 1, 0, 0};
        int[] most = {99, 9, 63, 3, 7, 9};
        if (out(what, 0, 5) || what < 2 && out(of, 0, 3) || out(v, least[what], most[what])) {
            return BAD;
        }
        int was = what == 0 ? legs[of].lng : what == 1 ? legs[of].number : what == 2 ? 8 * py + px
                : what == 3 ? radius : what == 4 ? turned : load;
        switch (what) {
            case 0 -> legs[of].lng = v;
            case 1 -> legs[of].number = v;
            case 2 -> {
                py = v / 8;
                px = v % 8;
            }
            case 3 -> radius = v;
            case 4 -> turned = v;
            default -> load = v;
        }
        return was;
    }

    int told(int of, int what) {
        if (out(what, 0, 6) || out(of, 0, what == 6 ? 63 : 3)) {
            return BAD;
        }
        return switch (what) {
            case 0 -> KINDS.indexOf(legs[of].getClass());
            case 1 -> legs[of].lng;
            case 2 -> legs[of].number;
            case 3 -> tall(of);
            case 4 -> 8 * beneath(of, py, px, turned)[0] + beneath(of, py, px, turned)[1];
            case 5 -> at(of, py, px, turned);
            default -> height[of / 8][of % 8];
        };
    }

    int feed(int letter) {
        if (out(letter, 0, 255)) {
            return BAD;
        }
        if (tape.length() == 160) {
            return FULL;
        }
        tape.append((char) letter);
        return tape.length();
    }

    int text() {
        if (texts.size() == 6) {
            return FULL;
        }
        String whole = tape.toString();
        tape.setLength(0);
        try {
            texts.add(new Parser(whole).whole());
            return texts.size() - 1;
        } catch (Fault fault) {
            return -100 - fault.place;
        }
    }

    int force(int text) {
        if (out(text, 0, texts.size() - 1)) {
            return BAD;
        }
        int was = rule;
        rule = text;
        return was;
    }

    int stands(int what) {
        return standsAt(8 * py + px, turned, what);
    }

    int standsAt(int place, int turn, int what) {
        if (out(place, 0, 63) || out(turn, 0, 7) || out(what, 0, 5)) {
            return -100000;
        }
        Standing s = stand(place / 8, place % 8, turn);
        return new int[] {s.gap(), s.rock(), s.lean(), s.loose(), s.worth(), s.spills()}[what];
    }

    int firm() {
        int bits = 0;
        for (int t = 0; t < 8; t++) {
            bits += here(t).firm() ? 1 << t : 0;
        }
        return bits;
    }

    int fewest(int what) {
        if (out(what, 0, 1)) {
            return BAD;
        }
        int best = 99;
        int bestTurn = NONE;
        for (int d : new int[] {0, 1, -1, 2, -2, 3, -3, 4, -4}) {
            if (here(turned + d).firm() && Math.abs(d) < best) {
                best = Math.abs(d);
                bestTurn = turned + d & 7;
            }
        }
        return best == 99 ? NONE : what == 0 ? best : bestTurn;
    }

    int feels(int what) {
        if (out(what, 0, 1)) {
            return BAD;
        }
        int first = here(turned).loose();
        for (int steps = 0;; steps++) {
            Standing s = here(turned + steps);
            if (s.firm() || s.loose() != first || steps == 8) {
                return what == 0 ? steps : s.firm() ? 1 : 0;
            }
        }
    }

    int best(int what) {
        if (out(what, 0, 2)) {
            return -100000;
        }
        int[] best = null;
        for (int place = 0; place < 64; place++) {
            for (int t = 0; t < 8; t++) {
                int worth = stand(place / 8, place % 8, t).worth();
                if (best == null || worth > best[2]) {
                    best = new int[] {place, t, worth};
                }
            }
        }
        return best[what];
    }

    int turn(int steps) {
        if (out(steps, -7, 7)) {
            return BAD;
        }
        turned = turned + steps & 7;
        return here(turned).rock();
    }

    int wedge() {
        Standing s = here(turned);
        if (s.firm()) {
            return STATE;
        }
        int[] c = beneath(s.gap() > 0 ? 1 : 0, py, px, turned);
        height[c[0]][c[1]] = Math.min(99, height[c[0]][c[1]] + s.rock());
        return s.rock();
    }

    int saw() {
        Standing s = here(turned);
        if (s.firm()) {
            return STATE;
        }
        Leg one = legs[s.gap() > 0 ? 0 : 1];
        Leg other = legs[s.gap() > 0 ? 2 : 3];
        one.lng = Math.max(0, one.lng - s.rock() / 2);
        other.lng = Math.max(0, other.lng - (s.rock() - s.rock() / 2));
        return here(turned).rock();
    }

    int screwed() {
        for (int sum = 0; sum <= 4; sum++) {
            if (screws(0, sum)) {
                return sum;
            }
        }
        return NONE;
    }

    private boolean screws(int leg, int left) {
        if (leg == 4) {
            return left == 0 && here(turned).firm();
        }
        int was = legs[leg].number;
        boolean found = false;
        for (int d = -3; d <= 3; d++) {
            boolean can = d == 0 || legs[leg] instanceof Screw && !out(was + d, 0, 9);
            if (can && Math.abs(d) <= left) {
                legs[leg].number = was + d;
                found |= screws(leg + 1, left - Math.abs(d));
            }
        }
        legs[leg].number = was;
        return found;
    }

    int blame(int what) {
        if (out(what, 0, 1)) {
            return -100000;
        }
        int half = (here(turned).gap() + here(turned + 2).gap()) / 2;
        return what == 0 ? half : here(turned).gap() - half;
    }

    int beside(int what) {
        if (out(what, 0, 1)) {
            return BAD;
        }
        for (int y = 0; y < 8; y++) {
            for (int x = 0; x < 8; x++) {
                for (int t = 0; t < 8; t++) {
                    int far = Math.max(Math.abs(y - py), Math.abs(x - px));
                    if (far > 2 * radius && stand(y, x, t).firm()) {
                        return what == 0 ? 8 * y + x : t;
                    }
                }
            }
        }
        return NONE;
    }

    int sit() {
        int was = load;
        int answer = NONE;
        for (load = 9; load >= was; load--) {
            if (here(turned).firm()) {
                answer = load - was;
            }
        }
        load = was;
        return answer;
    }

    private int judged(int sheet, int y, int x) {
        for (int i = 0; i < sheets[sheet].length; i++) {
            Standing s = stand(y, x, turned + i & 7);
            int knock = s.firm() ? 0 : s.loose() == 0b1010 ? 1 : 2;
            if (knock != sheets[sheet][i]) {
                return i;
            }
        }
        return NONE;
    }

    int judge(int sheet) {
        if (out(sheet, 0, 3)) {
            return BAD;
        }
        return sheets[sheet] == null ? -11 : judged(sheet, py, px);
    }

    long which(int sheet) {
        if (out(sheet, 0, 3) || sheets[sheet] == null) {
            return NO;
        }
        long bits = 0;
        for (int place = 63; place >= 0; place--) {
            bits = bits << 1 | (judged(sheet, place / 8, place % 8) == NONE ? 1 : 0);
        }
        return bits;
    }

    int drawn(int seed) {
        long z = seed * 1103515245L + 12345 & 0xffffffffL;
        int place = (int) (z / 256 % 64);
        z = z * 1103515245L + 12345 & 0xffffffffL;
        return stand(place / 8, place % 8, (int) (z / 1024 % 8)).rock();
    }

    long odds(int seed, int n, int part) {
        if (out(n, 1, 30) || out(part, 0, 1)) {
            return NO;
        }
        int of = 0;
        for (int i = 0; i < n; i++) {
            of += drawn(seed + i) == 0 ? 1 : 0;
        }
        int a = of;
        int b = n;
        while (a != 0) {
            int rest = b % a;
            b = a;
            a = rest;
        }
        return (part == 0 ? of : n) / b;
    }

    int image() {
        int[][] h = new int[8][];
        for (int y = 0; y < 8; y++) {
            h[y] = height[y].clone();
        }
        int[] longs = Arrays.stream(legs).mapToInt(l -> l.lng).toArray();
        int[] numbers = Arrays.stream(legs).mapToInt(l -> l.number).toArray();
        int[] rest = {py, px, radius, turned, load, rule};
        restoredTurn = turned;
        restore = () -> {
            for (int y = 0; y < 8; y++) {
                height[y] = h[y].clone();
            }
            for (int k = 0; k < 4; k++) {
                legs[k].lng = longs[k];
                legs[k].number = numbers[k];
            }
            py = rest[0];
            px = rest[1];
            radius = rest[2];
            turned = rest[3];
            load = rest[4];
            rule = rest[5];
        };
        return turned;
    }

    int back() {
        if (restore == null) {
            return STATE;
        }
        restore.run();
        return restoredTurn;
    }

    int count(int what) {
        return out(what, 0, 6) ? BAD
                : new int[] {8 * py + px, radius, turned, load, texts.size(), tape.length(), rule}[what];
    }

    int sheet(int sheet, int sort, int n) {
        if (out(sheet, 0, 3) || out(sort, -1, 2) || sort >= 0 && n > 40) {
            return BAD;
        }
        if (sort >= 0 && n < 0) {
            return -14;
        }
        sheets[sheet] = sort < 0 ? null : new long[n];
        sorts[sheet] = sort;
        return 1;
    }

    int cell(int sheet, int i, int v) {
        if (out(sheet, 0, 3)) {
            return BAD;
        }
        if (sheets[sheet] == null) {
            return -11;
        }
        if (out(i, 0, sheets[sheet].length - 1)) {
            return -12;
        }
        int shift = 32 - (8 << sorts[sheet]);
        sheets[sheet][i] = v << shift >> shift;
        return 1;
    }

    int copy(int sheet, int i, int other, int j, int n) {
        if (out(sheet, 0, 3) || out(other, 0, 3)) {
            return BAD;
        }
        if (sheets[sheet] == null || sheets[other] == null) {
            return -11;
        }
        if (sorts[sheet] != sorts[other]) {
            return -13;
        }
        long endOne = (long) i + n;
        long endOther = (long) j + n;
        if (i < 0 || j < 0 || n < 0 || endOne > sheets[sheet].length || endOther > sheets[other].length) {
            return -12;
        }
        long[] were = Arrays.copyOfRange(sheets[sheet], i, i + n);
        for (int k = 0; k < n; k++) {
            sheets[other][j + k] = were[k];
        }
        return n;
    }

    int floors(int sheet, int sort, int from, int n) {
        if (out(sheet, 0, 3) || out(sort, 0, 2) || out(n, 0, 20)) {
            return BAD;
        }
        if (sheets[sheet] != null && sorts[sheet] != sort) {
            return -13;
        }
        if (sheets[sheet] == null) {
            return -11;
        }
        int became = 0;
        for (long k = from; k < from + 2L * n; k += 2) {
            if (k < 0 || k + 1 >= sheets[sheet].length) {
                return -12;
            }
            became += floor((int) sheets[sheet][(int) k], (int) sheets[sheet][(int) k + 1]) == BAD ? 0 : 1;
        }
        return became;
    }

    int taken(int leg, int k) {
        if (out(k, 0, 5)) {
            return BAD;
        }
        if (out(leg, 0, 3)) {
            return -11;
        }
        return KINDS.get(k).isInstance(legs[leg]) ? legs[leg].lng : -13;
    }
}
