import java.util.ArrayList;
import java.util.Arrays;
import java.util.List;
import java.util.Random;

/** Long runs of calls, each answer held against a model that follows the document by trying everything out. */
public final class ModelTest {
    private static int wrong = 0;

    public static void main(String[] args) {
        for (int seed = 0; seed < 150; seed++) {
            for (Focus focus : Focus.values()) {
                new Run(seed).go(focus);
            }
        }
        System.out.println(wrong == 0 ? "all answers are the model's" : wrong + " answers are not the model's");
        if (wrong != 0) {
            System.exit(1);
        }
    }

    enum Focus { ALL, SHAPES, PUNCHES, SHEETS }

    /** One object and one model, which get the same calls. */
    static final class Run {
        /** The document promises 512; the last round of a run may take some twenty. */
        static final int CALLS = 490;
        final int seed;
        final Random random;
        final StripDies dies = new StripDies();
        final Model model = new Model();
        final List<String> history = new ArrayList<>();

        Run(int seed) {
            this.seed = seed;
            this.random = new Random(seed);
        }

        void go(Focus focus) {
            int known = wrong;
            for (int round = 0; round < 4 * CALLS && history.size() < CALLS && wrong == known; round++) {
                switch (focus) {
                    case SHAPES: shapesCall(); break;
                    case PUNCHES: punchesCall(); break;
                    case SHEETS: sheetsCall(); break;
                    default: anyCall(); break;
                }
            }
        }

        void anyCall() {
            switch (random.nextInt(3)) {
                case 0: shapesCall(); break;
                case 1: punchesCall(); break;
                default: sheetsCall(); break;
            }
        }

        /** A number of a range, now and then one beside it or far away. */
        int near(int least, int most) {
            switch (random.nextInt(40)) {
                case 0: return least - 1;
                case 1: return most + 1;
                case 2: return random.nextBoolean() ? Integer.MIN_VALUE : Integer.MAX_VALUE;
                case 3: return random.nextInt();
                default: return least + random.nextInt(Math.max(1, most - least + 1));
            }
        }

        int aShape() {
            return near(0, model.shapes.size() - 1);
        }

        int aPunch() {
            return near(0, model.punches.size() - 1);
        }

        void makeShape() {
            int k = random.nextInt(4), lane = random.nextInt(3), n = random.nextInt(4) == 0 ? 8 + random.nextInt(57) : 8;
            int from = random.nextInt(n - 7);
            int high = 1 + random.nextInt(random.nextInt(4) == 0 ? 8 : 4);
            int wide = 1 + random.nextInt(random.nextInt(4) == 0 ? 8 : 4);
            check("sheet", dies.sheet(k, lane, n), model.sheet(k, lane, n), k, lane, n);
            int up = random.nextInt(9 - high), right = random.nextInt(9 - wide);
            for (int y = 0; y < high; y++) {
                int bits = random.nextInt(1 << wide) << right;
                int v = bits | random.nextInt() << 8;
                check("put", dies.put(k, from + up + y, v), model.put(k, from + up + y, v), k, from + up + y, v);
            }
            check("shape", dies.shape(k, lane, from), model.shape(k, lane, from), k, lane, from);
        }

        void shapesCall() {
            if (model.shapes.size() < 2) {
                makeShape();
                return;
            }
            int a = aShape(), b = aShape();
            switch (random.nextInt(12)) {
                case 0: {
                    if (random.nextInt(4) == 0) {
                        makeShape();
                    }
                    break;
                }
                case 1: {
                    if (random.nextInt(4) == 0) {
                        int t = near(0, 7);
                        check("turn", dies.turn(a, t), model.turn(a, t), a, t);
                    }
                    break;
                }
                case 2: case 3: {
                    int what = near(0, 4);
                    check("about", dies.about(a, what), model.about(a, what), a, what);
                    break;
                }
                case 4: {
                    int x = near(0, 7), y = near(0, 7);
                    check("has", dies.has(a, x, y), model.has(a, x, y), a, x, y);
                    break;
                }
                case 5: {
                    int what = near(0, 2), v = near(0, what == 2 ? 4 : 3);
                    check("rule", dies.rule(what, v), model.rule(what, v), what, v);
                    break;
                }
                case 6: case 7: {
                    int what = near(0, 3);
                    check("alone", dies.alone(a, what), model.alone(a, what), a, what);
                    break;
                }
                case 8: case 9: case 10: {
                    int t = near(0, 7), dx = near(0, random.nextBoolean() ? 12 : 31), dy = near(-8, 8), what = near(0, 3);
                    check("pair", dies.pair(a, b, t, dx, dy, what), model.pair(a, b, t, dx, dy, what), a, b, t, dx, dy, what);
                    break;
                }
                default: {
                    if (random.nextInt(6) == 0 && model.isSmall(a) && model.isSmall(b)) {
                        for (int what = -1; what < 5; what++) {
                            check("best", dies.best(a, b, what), model.best(a, b, what), a, b, what);
                        }
                    }
                    break;
                }
            }
            told();
        }

        void punchesCall() {
            if (model.shapes.size() < 3) {
                makeShape();
                return;
            }
            int p = aPunch(), q = aPunch();
            boolean needsMore = model.punches.size() < 10 && random.nextInt(4) == 0;
            switch (needsMore ? 0 : random.nextInt(11)) {
                case 0: {
                    int spread = random.nextBoolean() ? 8 : 60;
                    int kind = near(0, 2), s = aShape(), x = near(0, spread), y = near(0, Math.min(spread, 20)), thick = near(1, 20);
                    check("punch", dies.punch(kind, s, x, y, thick), model.punch(kind, s, x, y, thick), kind, s, x, y, thick);
                    break;
                }
                case 1: check("ahead", dies.ahead(p, q), model.ahead(p, q), p, q); break;
                case 2: check("free", dies.free(p, q), model.free(p, q), p, q); break;
                case 3: check("must", dies.must(p, q), model.must(p, q), p, q); break;
                case 4: check("together", dies.together(p, q), model.together(p, q), p, q); break;
                case 5: {
                    if (random.nextInt(3) == 0) {
                        check("stations", dies.stations(), model.stations());
                        for (int i = -1; i <= model.punches.size(); i++) {
                            check("station", dies.station(i), model.station(i), i);
                        }
                    }
                    break;
                }
                case 6: {
                    int station = near(0, model.stations() - 1), what = near(0, 3);
                    check("force", dies.force(station, what), model.force(station, what), station, what);
                    break;
                }
                case 7: {
                    int station = near(0, model.stations() - 1), s = near(1, 4);
                    check("peak", dies.peak(station, s), model.peak(station, s), station, s);
                    break;
                }
                case 8: {
                    int what = near(0, 5);
                    check("punched", dies.punched(p, what), model.punched(p, what), p, what);
                    break;
                }
                case 9: {
                    int what = near(0, 2), v = near(0, what == 2 ? 4 : 3);
                    check("rule", dies.rule(what, v), model.rule(what, v), what, v);
                    break;
                }
                default: {
                    int kind = near(0, 2);
                    check("tell", dies.tell(p), model.tell(p), p);
                    check("keep", dies.keep(q), model.keep(q), q);
                    check("as", dies.as(p, kind), model.as(p, kind), p, kind);
                    break;
                }
            }
            told();
        }

        void sheetsCall() {
            int k = near(0, 3), lane = near(0, 2);
            switch (random.nextInt(7)) {
                case 0: {
                    int n = near(0, random.nextBoolean() ? 64 : 10);
                    check("sheet", dies.sheet(k, lane, n), model.sheet(k, lane, n), k, lane, n);
                    break;
                }
                case 1: {
                    if (random.nextInt(3) == 0) {
                        check("lose", dies.lose(k), model.lose(k), k);
                    }
                    break;
                }
                case 2: case 3: {
                    int i = near(0, model.lengthOf(k)), v = random.nextInt() >> random.nextInt(32);
                    check("put", dies.put(k, i, v), model.put(k, i, v), k, i, v);
                    break;
                }
                case 4: {
                    int i = near(0, model.lengthOf(k)), of = random.nextInt(4) == 0 ? lane : model.laneOf(k);
                    check("at", dies.at(k, i, of), model.at(k, i, of), k, i, of);
                    break;
                }
                case 5: {
                    int i = near(0, Math.max(0, model.lengthOf(k) - 7)), of = random.nextInt(4) == 0 ? lane : model.laneOf(k);
                    check("shape", dies.shape(k, of, i), model.shape(k, of, i), k, of, i);
                    break;
                }
                default: {
                    int width = near(1, 2000), least = width > 400 ? 20 : 1;
                    int w0 = strip(least), w1 = strip(least), w2 = strip(least);
                    for (int what = -1; what < 6; what++) {
                        check("slit", dies.slit(width, w0, w1, w2, what), model.slit(width, w0, w1, w2, what), width, w0, w1, w2, what);
                    }
                    break;
                }
            }
            told();
        }

        int strip(int least) {
            return random.nextInt(5) == 0 ? 0 : near(least, random.nextBoolean() ? 60 : 500);
        }

        void told() {
            switch (random.nextInt(3)) {
                case 0: check("fault", dies.fault(), model.fault); break;
                case 1: check("trace", dies.trace(), model.trace); break;
                default: {
                    int what = near(0, 5);
                    check("told", dies.told(what), model.told(what), what);
                    break;
                }
            }
        }

        void check(String call, long got, long want, int... with) {
            String text = call + Arrays.toString(with);
            history.add(text + " = " + want);
            if (got != want) {
                wrong++;
                System.out.println("run " + seed + ": " + text + " answered " + got + ", due is " + want);
                System.out.println("  behind " + history);
            }
        }
    }

    record Cell(int x, int y) { }

    record Punch(int kind, int shape, int x, int y, int thick) { }

    /** The document, done the long way. */
    static final class Model {
        static final int UNKNOWN = -1, OUTSIDE = -2, STATE = -3, FULL = -4;
        static final long LOST = Long.MIN_VALUE;
        final List<List<Cell>> shapes = new ArrayList<>();
        final List<Punch> punches = new ArrayList<>();
        final boolean[][] laws = new boolean[10][10];
        final Object[] sheets = new Object[4];
        final int[] rules = new int[3];
        int trace, fault;
        int[] plan;
        /** THE BEST PAIR that was asked for last, by its shapes and rules: it takes long to find. */
        int[] bestKey, bestFound;

        boolean isShape(int s) {
            return s >= 0 && s < shapes.size();
        }

        boolean isPunch(int p) {
            return p >= 0 && p < punches.size();
        }

        static boolean in(int v, int least, int most) {
            return v >= least && v <= most;
        }

        boolean isSmall(int s) {
            return !isShape(s) || shapes.get(s).size() < 14;
        }

        int lengthOf(int k) {
            return !in(k, 0, 3) || sheets[k] == null ? 0 : java.lang.reflect.Array.getLength(sheets[k]);
        }

        int laneOf(int k) {
            if (!in(k, 0, 3) || sheets[k] == null) {
                return 0;
            }
            return sheets[k] instanceof byte[] ? 0 : sheets[k] instanceof short[] ? 1 : 2;
        }

        static int greatestX(List<Cell> cells) {
            return cells.stream().mapToInt(Cell::x).max().getAsInt();
        }

        static int greatestY(List<Cell> cells) {
            return cells.stream().mapToInt(Cell::y).max().getAsInt();
        }

        static int leastY(List<Cell> cells) {
            return cells.stream().mapToInt(Cell::y).min().getAsInt();
        }

        static List<Cell> moved(List<Cell> cells, int dx, int dy) {
            List<Cell> result = new ArrayList<>();
            for (Cell c : cells) {
                result.add(new Cell(c.x + dx, c.y + dy));
            }
            return result;
        }

        static boolean apart(List<Cell> one, List<Cell> other, int w) {
            for (Cell c : one) {
                for (Cell d : other) {
                    if (Math.abs(c.x - d.x) <= w && Math.abs(c.y - d.y) <= w) {
                        return false;
                    }
                }
            }
            return true;
        }

        static List<Cell> turned(List<Cell> cells, int t) {
            List<Cell> now = new ArrayList<>(cells);
            if (t > 3) {
                int wide = greatestX(now) + 1;
                now.replaceAll(c -> new Cell(wide - 1 - c.x, c.y));
            }
            for (int k = 0; k < t % 4; k++) {
                int high = greatestY(now) + 1;
                now.replaceAll(c -> new Cell(high - 1 - c.y, c.x));
            }
            return now;
        }

        int shape(int k, int lane, int i) {
            fault = 0;
            if (!in(k, 0, 3)) {
                return UNKNOWN;
            }
            if (!in(lane, 0, 2)) {
                return OUTSIDE;
            }
            List<Cell> cells = new ArrayList<>();
            for (long y = 0; y < 8; y++) {
                fault = faultOf(k, (long) i + y, lane);
                if (fault != 0) {
                    return -10 - fault;
                }
                for (int x = 0; x < 8; x++) {
                    if ((valueAt(k, (int) (i + y)) >> x & 1) == 1) {
                        cells.add(new Cell(x, (int) y));
                    }
                }
            }
            if (cells.isEmpty()) {
                return OUTSIDE;
            }
            int left = cells.stream().mapToInt(Cell::x).min().getAsInt();
            return added(moved(cells, -left, -leastY(cells)));
        }

        int added(List<Cell> cells) {
            if (shapes.size() == 12) {
                return FULL;
            }
            shapes.add(cells);
            return shapes.size() - 1;
        }

        int turn(int s, int t) {
            return !isShape(s) ? UNKNOWN : !in(t, 0, 7) ? OUTSIDE : added(turned(shapes.get(s), t));
        }

        int about(int s, int what) {
            if (!isShape(s)) {
                return UNKNOWN;
            }
            List<Cell> cells = shapes.get(s);
            switch (what) {
                case 0: return cells.size();
                case 1: return greatestX(cells) + 1;
                case 2: return greatestY(cells) + 1;
                case 3: return edge(cells);
                case 4: return pieces(cells);
                default: return OUTSIDE;
            }
        }

        static List<Cell> beside(Cell c) {
            return List.of(new Cell(c.x + 1, c.y), new Cell(c.x - 1, c.y), new Cell(c.x, c.y + 1), new Cell(c.x, c.y - 1));
        }

        static int edge(List<Cell> cells) {
            int sides = 0;
            for (Cell c : cells) {
                for (Cell d : beside(c)) {
                    sides += cells.contains(d) ? 0 : 1;
                }
            }
            return sides;
        }

        static int pieces(List<Cell> cells) {
            List<Cell> left = new ArrayList<>(cells);
            int found = 0;
            while (!left.isEmpty()) {
                found++;
                List<Cell> open = new ArrayList<>(List.of(left.remove(0)));
                while (!open.isEmpty()) {
                    for (Cell d : beside(open.remove(0))) {
                        if (left.remove(d)) {
                            open.add(d);
                        }
                    }
                }
            }
            return found;
        }

        int has(int s, int x, int y) {
            return !isShape(s) ? UNKNOWN : !in(x, 0, 7) || !in(y, 0, 7) ? OUTSIDE : shapes.get(s).contains(new Cell(x, y)) ? 1 : 0;
        }

        int rule(int what, int v) {
            if (!in(what, 0, 2)) {
                return UNKNOWN;
            }
            if (!in(v, 0, what == 2 ? 4 : 3)) {
                return OUTSIDE;
            }
            int was = rules[what];
            rules[what] = v;
            plan = null;
            return was;
        }

        int pitch(List<Cell> set) {
            for (int p = 1; ; p++) {
                boolean fits = true;
                for (int d = p; d < 64 && fits; d += p) {
                    fits = apart(set, moved(set, d, 0), rules[0]);
                }
                if (fits) {
                    return p;
                }
            }
        }

        int laying(List<Cell> set, int what) {
            int strip = greatestY(set) - leastY(set) + 1 + 2 * rules[1];
            switch (what) {
                case 0: return pitch(set);
                case 1: return strip;
                case 2: return pitch(set) * strip;
                default: return pitch(set) * strip - set.size();
            }
        }

        int alone(int s, int what) {
            return !isShape(s) ? UNKNOWN : !in(what, 0, 3) ? OUTSIDE : laying(shapes.get(s), what);
        }

        int pair(int a, int b, int t, int dx, int dy, int what) {
            if (!isShape(a) || !isShape(b)) {
                return UNKNOWN;
            }
            if (!in(t, 0, 7) || !in(dx, 0, 31) || !in(dy, -8, 8) || !in(what, 0, 3)) {
                return OUTSIDE;
            }
            List<Cell> both = new ArrayList<>(shapes.get(a));
            List<Cell> second = moved(turned(shapes.get(b), t), dx, dy);
            if (!apart(both, second, rules[0])) {
                return STATE;
            }
            both.addAll(second);
            return laying(both, what);
        }

        int best(int a, int b, int what) {
            if (!isShape(a) || !isShape(b)) {
                return UNKNOWN;
            }
            if (!in(what, 0, 3)) {
                return OUTSIDE;
            }
            int[] key = {a, b, rules[0], rules[1]};
            if (!Arrays.equals(key, bestKey)) {
                bestKey = key;
                bestFound = bestPair(a, b);
            }
            return bestFound[what];
        }

        int[] bestPair(int a, int b) {
            int[] found = {0, 0, 0, Integer.MAX_VALUE};
            for (int t = 0; t < 8; t++) {
                for (int dx = 0; dx < 16; dx++) {
                    for (int dy = -8; dy <= 8; dy++) {
                        int spent = pair(a, b, t, dx, dy, 2);
                        if (spent >= 0 && spent < found[3]) {
                            found = new int[] {t, dx, dy, spent};
                        }
                    }
                }
            }
            return found;
        }

        int punch(int kind, int s, int x, int y, int thick) {
            if (!isShape(s)) {
                return UNKNOWN;
            }
            if (!in(kind, 0, 2) || !in(x, 0, 60) || !in(y, 0, 20) || !in(thick, 1, 20)) {
                return OUTSIDE;
            }
            if (punches.size() == 10) {
                return FULL;
            }
            punches.add(new Punch(kind, s, x, y, thick));
            plan = null;
            return punches.size() - 1;
        }

        boolean leads(int a, int b) {
            for (int c = 0; c < 10; c++) {
                if (laws[a][c] && (c == b || leads(c, b))) {
                    return true;
                }
            }
            return false;
        }

        int ahead(int a, int b) {
            if (!isPunch(a) || !isPunch(b)) {
                return UNKNOWN;
            }
            if (a == b || leads(b, a)) {
                return STATE;
            }
            int was = laws[a][b] ? 0 : 1;
            laws[a][b] = true;
            plan = null;
            return was;
        }

        int free(int a, int b) {
            if (!isPunch(a) || !isPunch(b)) {
                return UNKNOWN;
            }
            int was = laws[a][b] ? 1 : 0;
            laws[a][b] = false;
            plan = null;
            return was;
        }

        int must(int a, int b) {
            return !isPunch(a) || !isPunch(b) ? UNKNOWN : leads(a, b) ? 1 : 0;
        }

        boolean walled(int a, int b) {
            Punch p = punches.get(a), q = punches.get(b);
            return apart(moved(shapes.get(p.shape), p.x, p.y), moved(shapes.get(q.shape), q.x, q.y), rules[2]);
        }

        int together(int a, int b) {
            if (!isPunch(a) || !isPunch(b)) {
                return UNKNOWN;
            }
            return a == b || !leads(a, b) && !leads(b, a) && walled(a, b) ? 1 : 0;
        }

        int stations() {
            int n = punches.size();
            if (plan == null) {
                boolean[][] clash = new boolean[n][n];
                for (int a = 0; a < n; a++) {
                    for (int b = 0; b < n; b++) {
                        clash[a][b] = a != b && !walled(a, b);
                    }
                }
                int[] row = new int[n];
                for (int k = 0; plan == null; k++) {
                    if (assigned(row, 0, k, clash)) {
                        plan = row;
                    }
                }
            }
            return n == 0 ? 0 : Arrays.stream(plan).max().getAsInt() + 1;
        }

        /** Tries rows in their order, so that the first that holds is the least. */
        boolean assigned(int[] row, int p, int k, boolean[][] clash) {
            if (p == row.length) {
                return true;
            }
            for (int at = 0; at < k; at++) {
                boolean holds = true;
                for (int q = 0; q < p && holds; q++) {
                    holds = !(laws[q][p] && row[q] >= at) && !(laws[p][q] && at >= row[q]) && !(clash[p][q] && row[q] == at);
                }
                row[p] = at;
                if (holds && assigned(row, p + 1, k, clash)) {
                    return true;
                }
            }
            return false;
        }

        int station(int p) {
            if (!isPunch(p)) {
                return UNKNOWN;
            }
            stations();
            return plan[p];
        }

        int forceOf(Punch p) {
            int whole = edge(shapes.get(p.shape)) * p.thick;
            return p.kind == 2 ? whole / 2 : whole;
        }

        List<Punch> punchesIn(int station) {
            List<Punch> found = new ArrayList<>();
            for (int p = 0; p < punches.size(); p++) {
                if (station(p) == station) {
                    found.add(punches.get(p));
                }
            }
            return found;
        }

        long force(int station, int what) {
            if (!in(station, 0, stations() - 1) || !in(what, 0, 3)) {
                return LOST;
            }
            long sum = 0;
            for (Punch p : punchesIn(station)) {
                int wide = about(p.shape, 1), high = about(p.shape, 2), force = forceOf(p);
                sum += what == 0 ? force : what == 1 ? force * (2 * p.x + wide) : what == 2 ? force * (2 * p.y + high) : 1;
            }
            return sum;
        }

        int peak(int station, int s) {
            if (!in(station, 0, stations() - 1)) {
                return UNKNOWN;
            }
            if (!in(s, 1, 4)) {
                return OUTSIDE;
            }
            List<Punch> here = punchesIn(station);
            int ways = (int) Math.round(Math.pow(s, here.size()));
            int least = Integer.MAX_VALUE;
            for (int way = 0; way < ways; way++) {
                int[] steps = new int[s];
                int rest = way;
                for (Punch p : here) {
                    steps[rest % s] += forceOf(p);
                    rest /= s;
                }
                least = Math.min(least, Arrays.stream(steps).max().getAsInt());
            }
            return least;
        }

        int punched(int p, int what) {
            if (!isPunch(p)) {
                return UNKNOWN;
            }
            Punch one = punches.get(p);
            int[] all = {one.kind, one.shape, one.x, one.y, one.thick, forceOf(one)};
            return in(what, 0, 5) ? all[what] : OUTSIDE;
        }

        int slit(int width, int w0, int w1, int w2, int what) {
            if (!in(width, 1, 2000) || !in(w0, 0, 500) || !in(w1, 0, 500) || !in(w2, 0, 500) || !in(what, 0, 4)) {
                return OUTSIDE;
            }
            if (w0 + w1 + w2 == 0) {
                return OUTSIDE;
            }
            int[] best = null;
            for (int a = 0; a * w0 <= width && (w0 > 0 || a == 0); a++) {
                for (int b = 0; a * w0 + b * w1 <= width && (w1 > 0 || b == 0); b++) {
                    for (int c = 0; a * w0 + b * w1 + c * w2 <= width && (w2 > 0 || c == 0); c++) {
                        int[] way = {width - a * w0 - b * w1 - c * w2, a + b + c, -a, -b, -c};
                        if (best == null || Arrays.compare(way, best) < 0) {
                            best = way;
                        }
                    }
                }
            }
            return Math.abs(best[what]);
        }

        int sheet(int k, int lane, int n) {
            fault = 0;
            if (!in(k, 0, 3)) {
                return UNKNOWN;
            }
            if (!in(lane, 0, 2) || n > 64) {
                return OUTSIDE;
            }
            if (n < 0) {
                fault = 4;
                return -14;
            }
            sheets[k] = lane == 0 ? new byte[n] : lane == 1 ? new short[n] : new int[n];
            return 1;
        }

        int lose(int k) {
            if (!in(k, 0, 3)) {
                return UNKNOWN;
            }
            int had = sheets[k] == null ? 0 : 1;
            sheets[k] = null;
            return had;
        }

        /** CAST, NULL, INDEX: in the order told, and nothing is no CAST. */
        int faultOf(int k, long i, int lane) {
            if (sheets[k] != null && laneOf(k) != lane) {
                return 2;
            }
            if (sheets[k] == null) {
                return 1;
            }
            return i < 0 || i >= lengthOf(k) ? 3 : 0;
        }

        long valueAt(int k, int i) {
            return java.lang.reflect.Array.getLong(sheets[k], i);
        }

        int put(int k, int i, int v) {
            fault = 0;
            if (!in(k, 0, 3)) {
                return UNKNOWN;
            }
            fault = faultOf(k, i, laneOf(k));
            if (fault != 0) {
                return -10 - fault;
            }
            if (sheets[k] instanceof byte[] bytes) {
                bytes[i] = (byte) v;
            } else if (sheets[k] instanceof short[] shorts) {
                shorts[i] = (short) v;
            } else if (sheets[k] instanceof int[] ints) {
                ints[i] = v;
            }
            return 1;
        }

        long at(int k, int i, int lane) {
            fault = 0;
            if (!in(k, 0, 3) || !in(lane, 0, 2)) {
                return LOST;
            }
            fault = faultOf(k, i, lane);
            return fault != 0 ? LOST : valueAt(k, i);
        }

        int tell(int p) {
            if (!isPunch(p)) {
                return UNKNOWN;
            }
            int kind = punches.get(p).kind, cells = shapes.get(punches.get(p).shape).size();
            for (int body : kind == 0 ? new int[] {1} : kind == 1 ? new int[] {2, 1} : new int[] {3, 2, 1, 1}) {
                trace = 31 * trace + body;
            }
            return kind == 0 ? cells : kind == 1 ? 100 + cells : 100 + 2 * cells;
        }

        int keep(int p) {
            if (!isPunch(p)) {
                return UNKNOWN;
            }
            int kind = punches.get(p).kind;
            trace = 31 * trace + (kind == 2 ? 5 : 4);
            return kind == 2 ? 50 : p + kind;
        }

        int as(int p, int kind) {
            fault = 0;
            if (!isPunch(p)) {
                return UNKNOWN;
            }
            if (!in(kind, 0, 2)) {
                return OUTSIDE;
            }
            fault = punches.get(p).kind >= kind ? 0 : 2;
            return fault == 0 ? 1 : -12;
        }

        int told(int what) {
            int count = 0;
            for (boolean[] row : laws) {
                for (boolean law : row) {
                    count += law ? 1 : 0;
                }
            }
            int[] all = {shapes.size(), punches.size(), count, rules[0], rules[1], rules[2]};
            return in(what, 0, 5) ? all[what] : OUTSIDE;
        }
    }
}
