/** Blanks on strips, punches in stations, coils slit to strips: DOC.md tells what each call promises. */
public final class StripDies {
    public static final int UNKNOWN = -1, OUTSIDE = -2, STATE = -3, FULL = -4, NONE = -9;
    public static final long LOST = Long.MIN_VALUE;

    private static final int NULL = 1, CAST = 2, INDEX = 3, SIZE = 4;
    private static final int MOST_SHAPES = 12, MOST_PUNCHES = 10, MOST_SHEETS = 4;
    private static final int LANES = 3, MOST_CELLS = 64, SIDE = 8;
    private static final int PILOT = 1, BEND = 2;
    private static final int MOST_WEB = 3, MOST_MARGIN = 3, MOST_WALL = 4, MOST_STEPS = 4;
    private static final int MOST_WIDTH = 2000, MOST_STRIP = 500;

    private final Shape[] shapes = new Shape[MOST_SHAPES];
    private final Punch[] punches = new Punch[MOST_PUNCHES];
    private final Sheet[] sheets = new Sheet[MOST_SHEETS];
    private final Laws laws = new Laws();
    private final Layout layout = new Layout();
    private final Nearness walls = new Nearness();
    private final Plan plan = new Plan();
    private final Press press = new Press();
    private final Coil coil = new Coil();
    private int shapeCount, punchCount;
    private int web, margin, wall;
    private int trace, fault;

    public StripDies() {
        for (int k = 0; k < MOST_SHEETS; k++) {
            sheets[k] = new Sheet();
        }
    }

    // ---- 1 shapes

    public int shape(int sheet, int lane, int i) {
        fault = 0;
        Sheet from = sheetAt(sheet);
        if (from == null) {
            return UNKNOWN;
        }
        if (!isWithin(lane, 0, LANES - 1)) {
            return OUTSIDE;
        }
        int found = from.faultOf(lane, i, SIDE);
        if (found != 0) {
            return faulted(found);
        }
        long cells = from.cellsFrom(i);
        return cells == 0 ? OUTSIDE : addShape(cells);
    }

    public int turn(int s, int t) {
        Shape known = shapeAt(s);
        if (known == null) {
            return UNKNOWN;
        }
        return isWithin(t, 0, 7) ? addShape(known.turned(t)) : OUTSIDE;
    }

    public int about(int s, int what) {
        Shape known = shapeAt(s);
        if (known == null) {
            return UNKNOWN;
        }
        switch (what) {
            case 0: return known.cellCount();
            case 1: return known.width;
            case 2: return known.height;
            case 3: return known.edge();
            case 4: return known.pieces();
            default: return OUTSIDE;
        }
    }

    public int has(int s, int x, int y) {
        Shape known = shapeAt(s);
        if (known == null) {
            return UNKNOWN;
        }
        if (!isWithin(x, 0, SIDE - 1) || !isWithin(y, 0, SIDE - 1)) {
            return OUTSIDE;
        }
        return known.row(y) >>> x & 1;
    }

    public int rule(int what, int v) {
        switch (what) {
            case 0: return isWithin(v, 0, MOST_WEB) ? changeWeb(v) : OUTSIDE;
            case 1: return isWithin(v, 0, MOST_MARGIN) ? changeMargin(v) : OUTSIDE;
            case 2: return isWithin(v, 0, MOST_WALL) ? changeWall(v) : OUTSIDE;
            default: return UNKNOWN;
        }
    }

    public int alone(int s, int what) {
        Shape laid = shapeAt(s);
        if (laid == null) {
            return UNKNOWN;
        }
        if (!isWithin(what, 0, 3)) {
            return OUTSIDE;
        }
        int pitch = layout.pitchOf(layout.clashesWithItself(laid, web));
        return ofLaying(what, pitch, laid.height + 2 * margin, laid.cellCount());
    }

    public int pair(int a, int b, int t, int dx, int dy, int what) {
        Shape first = shapeAt(a);
        Shape second = shapeAt(b);
        if (first == null || second == null) {
            return UNKNOWN;
        }
        if (!isWithin(t, 0, 7) || !isWithin(dx, 0, 31) || !isWithin(dy, -8, 8) || !isWithin(what, 0, 3)) {
            return OUTSIDE;
        }
        Shape turned = new Shape(second.turned(t));
        int pitch = layout.pitchOfPair(first, turned, dx, dy, web);
        if (pitch == 0) {
            return STATE;
        }
        int strip = Layout.stripOf(first, turned, dy, margin);
        return ofLaying(what, pitch, strip, first.cellCount() + turned.cellCount());
    }

    public int best(int a, int b, int what) {
        Shape first = shapeAt(a);
        Shape second = shapeAt(b);
        if (first == null || second == null) {
            return UNKNOWN;
        }
        if (!isWithin(what, 0, 3)) {
            return OUTSIDE;
        }
        int place = a * MOST_SHAPES + b;
        if (layout.known[place] == 0) {
            layout.known[place] = layout.bestPair(first, second, web, margin);
        }
        return Layout.partOf(layout.known[place], what);
    }

    // ---- 2 punches

    public int punch(int kind, int s, int x, int y, int thick) {
        Shape form = shapeAt(s);
        if (form == null) {
            return UNKNOWN;
        }
        if (!isWithin(kind, 0, BEND) || !isWithin(x, 0, 60) || !isWithin(y, 0, 20) || !isWithin(thick, 1, 20)) {
            return OUTSIDE;
        }
        if (punchCount >= MOST_PUNCHES) {
            return FULL;
        }
        punches[punchCount] = new Punch(kind, s, form, x, y, thick);
        plan.isFresh = false;
        return punchCount++;
    }

    public int ahead(int a, int b) {
        if (!isPunch(a) || !isPunch(b)) {
            return UNKNOWN;
        }
        if (a == b || laws.mustLead(b, a)) {
            return STATE;
        }
        if (laws.hasLaw(a, b)) {
            return 0;
        }
        laws.change(a, b);
        plan.isFresh = false;
        return 1;
    }

    public int free(int a, int b) {
        if (!isPunch(a) || !isPunch(b)) {
            return UNKNOWN;
        }
        if (!laws.hasLaw(a, b)) {
            return 0;
        }
        laws.change(a, b);
        plan.isFresh = false;
        return 1;
    }

    public int must(int a, int b) {
        if (!isPunch(a) || !isPunch(b)) {
            return UNKNOWN;
        }
        return laws.mustLead(a, b) ? 1 : 0;
    }

    public int together(int a, int b) {
        Punch one = punchAt(a);
        Punch other = punchAt(b);
        if (one == null || other == null) {
            return UNKNOWN;
        }
        if (a == b) {
            return 1;
        }
        if (laws.mustLead(a, b) || laws.mustLead(b, a)) {
            return 0;
        }
        walls.grow(one.form, wall);
        return areWalled(one, other) ? 1 : 0;
    }

    public int stations() {
        refreshPlan();
        return plan.count;
    }

    public int station(int p) {
        if (!isPunch(p)) {
            return UNKNOWN;
        }
        refreshPlan();
        return plan.stationOf(p);
    }

    public long force(int station, int what) {
        refreshPlan();
        if (!plan.hasStation(station) || !isWithin(what, 0, 3)) {
            return LOST;
        }
        long sum = 0;
        for (int p = 0; p < punchCount; p++) {
            Punch one = punches[p];
            if (one != null && plan.stationOf(p) == station) {
                sum += one.share(what);
            }
        }
        return sum;
    }

    public int peak(int station, int s) {
        refreshPlan();
        if (!plan.hasStation(station)) {
            return UNKNOWN;
        }
        if (!isWithin(s, 1, MOST_STEPS)) {
            return OUTSIDE;
        }
        press.clear();
        for (int p = 0; p < punchCount; p++) {
            Punch one = punches[p];
            if (one != null && plan.stationOf(p) == station) {
                press.add(one.strength());
            }
        }
        return press.leastPeak(s);
    }

    public int punched(int p, int what) {
        Punch one = punchAt(p);
        if (one == null) {
            return UNKNOWN;
        }
        switch (what) {
            case 0: return one.kind;
            case 1: return one.formNumber;
            case 2: return one.x;
            case 3: return one.y;
            case 4: return one.thick;
            case 5: return one.strength();
            default: return OUTSIDE;
        }
    }

    // ---- 3 coils, sheets, parts

    public int slit(int width, int w0, int w1, int w2, int what) {
        if (!isWithin(width, 1, MOST_WIDTH) || !isWithin(what, 0, 4)) {
            return OUTSIDE;
        }
        if (!isWithin(w0, 0, MOST_STRIP) || !isWithin(w1, 0, MOST_STRIP) || !isWithin(w2, 0, MOST_STRIP)) {
            return OUTSIDE;
        }
        if (w0 == 0 && w1 == 0 && w2 == 0) {
            return OUTSIDE;
        }
        coil.price(width, w0, w1, w2);
        return coil.answer(width, what);
    }

    public int sheet(int k, int lane, int n) {
        fault = 0;
        Sheet known = sheetAt(k);
        if (known == null) {
            return UNKNOWN;
        }
        if (!isWithin(lane, 0, LANES - 1) || n > MOST_CELLS) {
            return OUTSIDE;
        }
        if (n < 0) {
            return faulted(SIZE);
        }
        known.renew(lane, n);
        return 1;
    }

    public int lose(int k) {
        Sheet known = sheetAt(k);
        if (known == null) {
            return UNKNOWN;
        }
        if (!known.hasRow()) {
            return 0;
        }
        known.drop();
        return 1;
    }

    public int put(int k, int i, int v) {
        fault = 0;
        Sheet known = sheetAt(k);
        if (known == null) {
            return UNKNOWN;
        }
        int found = known.faultOf(known.lane, i, 1);
        if (found != 0) {
            return faulted(found);
        }
        known.write(i, v);
        return 1;
    }

    public long at(int k, int i, int lane) {
        fault = 0;
        Sheet known = sheetAt(k);
        if (known == null || !isWithin(lane, 0, LANES - 1)) {
            return LOST;
        }
        fault = known.faultOf(lane, i, 1);
        return fault != 0 ? LOST : known.cells[i];
    }

    public int tell(int p) {
        Punch one = punchAt(p);
        if (one == null) {
            return UNKNOWN;
        }
        switch (one.kind) {
            case BEND: return bendTells(one);
            case PILOT: return pilotTells(one);
            default: return cutTells(one);
        }
    }

    public int keep(int p) {
        Punch one = punchAt(p);
        if (one == null) {
            return UNKNOWN;
        }
        return one.kind == BEND ? bendKeeps() : lentKeeps(p, one.kind);
    }

    public int as(int p, int kind) {
        fault = 0;
        Punch one = punchAt(p);
        if (one == null) {
            return UNKNOWN;
        }
        if (!isWithin(kind, 0, BEND)) {
            return OUTSIDE;
        }
        // Each kind is one of the kinds below it, too.
        return one.kind < kind ? faulted(CAST) : 1;
    }

    public int trace() {
        return trace;
    }

    public int fault() {
        return fault;
    }

    public int told(int what) {
        switch (what) {
            case 0: return shapeCount;
            case 1: return punchCount;
            case 2: return laws.count();
            case 3: return web;
            case 4: return margin;
            case 5: return wall;
            default: return OUTSIDE;
        }
    }

    // ---- what the calls share

    private static boolean isWithin(int v, int least, int most) {
        return v >= least && v <= most;
    }

    private Shape shapeAt(int s) {
        return isWithin(s, 0, shapeCount - 1) ? shapes[s] : null;
    }

    private boolean isPunch(int p) {
        return isWithin(p, 0, punchCount - 1);
    }

    private Punch punchAt(int p) {
        return isPunch(p) ? punches[p] : null;
    }

    private Sheet sheetAt(int k) {
        return isWithin(k, 0, MOST_SHEETS - 1) ? sheets[k] : null;
    }

    private int faulted(int which) {
        fault = which;
        return -10 - which;
    }

    private int addShape(long cells) {
        if (shapeCount >= MOST_SHAPES) {
            return FULL;
        }
        shapes[shapeCount] = new Shape(cells);
        return shapeCount++;
    }

    private int changeWeb(int v) {
        int was = web;
        web = v;
        layout.forget();
        return was;
    }

    private int changeMargin(int v) {
        int was = margin;
        margin = v;
        layout.forget();
        return was;
    }

    private int changeWall(int v) {
        int was = wall;
        wall = v;
        plan.isFresh = false;
        return was;
    }

    private static int ofLaying(int what, int pitch, int strip, int cells) {
        switch (what) {
            case 0: return pitch;
            case 1: return strip;
            case 2: return pitch * strip;
            default: return pitch * strip - cells;
        }
    }

    /** Whether a punch may stand beside another one, whose shape the walls have grown. */
    private boolean areWalled(Punch grown, Punch other) {
        return !walls.isNear(other.form, other.x - grown.x, other.y - grown.y);
    }

    private void refreshPlan() {
        if (plan.isFresh) {
            return;
        }
        for (int p = 0; p < punchCount; p++) {
            plan.fits[p] = fittingTo(p);
        }
        plan.make(punchCount, laws.before);
    }

    /** The punches, as bits, that THE WALL lets stand beside punch p. */
    private int fittingTo(int p) {
        Punch one = punchAt(p);
        if (one == null) {
            return 0;
        }
        int fitting = 0;
        walls.grow(one.form, wall);
        for (int q = 0; q < punchCount; q++) {
            Punch other = punches[q];
            if (other != null && q != p && areWalled(one, other)) {
                fitting |= 1 << q;
            }
        }
        return fitting;
    }

    private void leave(int number) {
        trace = 31 * trace + number;
    }

    private int cutTells(Punch one) {
        leave(1);
        return one.form.cellCount();
    }

    private int pilotTells(Punch one) {
        leave(2);
        return 100 + cutTells(one);
    }

    private int bendTells(Punch one) {
        leave(3);
        int asPilot = pilotTells(one);
        return asPilot + cutTells(one);
    }

    private int lentKeeps(int number, int kind) {
        leave(4);
        return number + kind;
    }

    private int bendKeeps() {
        leave(5);
        return 50;
    }

    /** A set of cells, bit 8 y + x each, in the corner: one has x 0 and one has y 0. */
    private static final class Shape {
        private static final long ROW = 0xFFL, COLUMN = 0x0101010101010101L, LAST_COLUMN = COLUMN << 7;

        final long cells;
        final int width, height;

        Shape(long anywhere) {
            cells = toCorner(anywhere);
            width = widthOf(cells);
            height = heightOf(cells);
        }

        int row(int y) {
            return (int) (cells >>> SIDE * y & ROW);
        }

        int cellCount() {
            return Long.bitCount(cells);
        }

        int edge() {
            int upright = Long.bitCount(cells & cells >>> SIDE);
            int beside = Long.bitCount(cells & cells >>> 1 & ~LAST_COLUMN);
            return 4 * cellCount() - 2 * (upright + beside);
        }

        int pieces() {
            long left = cells;
            int found = 0;
            for (int k = 0; k < MOST_CELLS && left != 0; k++) {
                left &= ~pieceFrom(left & -left);
                found++;
            }
            return found;
        }

        private long pieceFrom(long cell) {
            long piece = cell;
            for (int k = 0; k < MOST_CELLS; k++) {
                long sideways = (piece & ~LAST_COLUMN) << 1 | (piece & ~COLUMN) >>> 1;
                long wider = (piece | piece << SIDE | piece >>> SIDE | sideways) & cells;
                if (wider == piece) {
                    break;
                }
                piece = wider;
            }
            return piece;
        }

        /** The cells in a TURN. */
        long turned(int t) {
            long now = t > 3 ? turnedOver() : cells;
            int high = height;
            int wide = width;
            for (int k = 0; k < (t & 3); k++) {
                now = quarterTurned(now, high);
                int was = high;
                high = wide;
                wide = was;
            }
            return now;
        }

        private long turnedOver() {
            long over = 0;
            for (int bit = 0; bit < MOST_CELLS; bit++) {
                if ((cells >>> bit & 1) != 0) {
                    over |= cellAt(width - 1 - bit % SIDE, bit / SIDE);
                }
            }
            return over;
        }

        private static long quarterTurned(long cells, int high) {
            long turned = 0;
            for (int bit = 0; bit < MOST_CELLS; bit++) {
                if ((cells >>> bit & 1) != 0) {
                    turned |= cellAt(high - 1 - bit / SIDE, bit % SIDE);
                }
            }
            return turned;
        }

        private static long cellAt(int x, int y) {
            return 1L << SIDE * y + x;
        }

        private static long toCorner(long anywhere) {
            long moved = anywhere;
            for (int k = 1; k < SIDE && (moved & ROW) == 0; k++) {
                moved >>>= SIDE;
            }
            for (int k = 1; k < SIDE && (moved & COLUMN) == 0; k++) {
                moved >>>= 1;
            }
            return moved;
        }

        private static int widthOf(long cells) {
            for (int x = SIDE - 1; x > 0; x--) {
                if ((cells & COLUMN << x) != 0) {
                    return x + 1;
                }
            }
            return 1;
        }

        private static int heightOf(long cells) {
            for (int y = SIDE - 1; y > 0; y--) {
                if ((cells & ROW << SIDE * y) != 0) {
                    return y + 1;
                }
            }
            return 1;
        }
    }

    /** Tells which shifts bring a shape too near to another one. */
    private static final class Nearness {
        /** Beyond this shift sideways two shapes are APART, whatever the gap. */
        static final int REACH = SIDE - 1 + MOST_WALL;

        private final int[] grown = new int[SIDE + 2 * MOST_WALL];

        /** Widens a shape by the gap on all sides: what then shares no cell with it is APART. */
        void grow(Shape s, int gap) {
            for (int r = 0; r < grown.length; r++) {
                grown[r] = 0;
            }
            for (int y = 0; y < SIDE; y++) {
                int wide = 0;
                for (int i = MOST_WALL - gap; i <= MOST_WALL + gap; i++) {
                    wide |= s.row(y) << i;
                }
                for (int i = MOST_WALL - gap; i <= MOST_WALL + gap; i++) {
                    grown[y + i] |= wide;
                }
            }
        }

        /** Bit REACH + dx: the other shape, shifted by dx and dy, is not APART from the grown one. */
        long shiftsOf(Shape other, int dy) {
            long found = 0;
            for (int y = 0; y < other.height; y++) {
                int r = y + dy + MOST_WALL;
                if (r < 0 || r >= grown.length) {
                    continue;
                }
                int row = other.row(y);
                for (int x = 0; x < other.width; x++) {
                    if ((row >>> x & 1) != 0) {
                        found |= (long) grown[r] << SIDE - 1 - x;
                    }
                }
            }
            return found;
        }

        boolean isNear(Shape other, int dx, int dy) {
            return isWithin(dx, -REACH, REACH) && (shiftsOf(other, dy) >>> REACH + dx & 1) != 0;
        }
    }

    /** Lays shapes on a strip. Clashes are bits: bit d, if copies at a distance of d are not APART. */
    private static final class Layout {
        private static final int REACH = Nearness.REACH;
        private static final int FARTHEST = 63;

        /** Answers of bestPair that still hold, by both shapes' numbers; 0: none. */
        final int[] known = new int[MOST_SHAPES * MOST_SHAPES];
        private final Nearness near = new Nearness();
        private final long[] multiples = new long[FARTHEST + 1];

        Layout() {
            for (int p = 1; p <= FARTHEST; p++) {
                for (int d = p; d <= FARTHEST; d += p) {
                    multiples[p] |= 1L << d;
                }
            }
        }

        void forget() {
            for (int i = 0; i < known.length; i++) {
                known[i] = 0;
            }
        }

        /** Shapes clash at 41 at the farthest (dx, a side and THE WEB), so that a pitch is always found. */
        int pitchOf(long clashes) {
            for (int p = 1; p < FARTHEST; p++) {
                if ((clashes & multiples[p]) == 0) {
                    return p;
                }
            }
            return FARTHEST;
        }

        long clashesWithItself(Shape s, int web) {
            near.grow(s, web);
            return near.shiftsOf(s, 0) >>> REACH;
        }

        /** PITCH of a PAIR, 0 if it is not APART. */
        int pitchOfPair(Shape a, Shape turned, int dx, int dy, int web) {
            long clashes = clashesWithItself(a, web) | clashesWithItself(turned, web);
            near.grow(a, web);
            long shifts = near.shiftsOf(turned, dy);
            if (!isApart(shifts, dx)) {
                return 0;
            }
            return pitchOf(clashes | clashesAcross(shifts, mirrored(shifts), dx));
        }

        static int stripOf(Shape a, Shape turned, int dy, int margin) {
            return Math.max(a.height, dy + turned.height) - Math.min(0, dy) + 2 * margin;
        }

        /** THE BEST PAIR as one number, whose order is that of SPENT, t, dx, dy; partOf takes it apart. */
        int bestPair(Shape a, Shape b, int web, int margin) {
            int best = Integer.MAX_VALUE;
            long alone = clashesWithItself(a, web);
            for (int t = 0; t < 8; t++) {
                Shape turned = new Shape(b.turned(t));
                long clashes = alone | clashesWithItself(turned, web);
                near.grow(a, web);
                for (int dy = -8; dy <= 8; dy++) {
                    int strip = stripOf(a, turned, dy, margin);
                    int places = t * 16 * 17 + dy + 8;
                    best = Math.min(best, bestShift(clashes, near.shiftsOf(turned, dy), strip, places));
                }
            }
            return best;
        }

        private int bestShift(long clashes, long shifts, int strip, int places) {
            int best = Integer.MAX_VALUE;
            long back = mirrored(shifts);
            for (int dx = 0; dx < 16; dx++) {
                if (isApart(shifts, dx)) {
                    int spent = strip * pitchOf(clashes | clashesAcross(shifts, back, dx));
                    best = Math.min(best, spent * 8 * 16 * 17 + places + dx * 17);
                }
            }
            return best;
        }

        static int partOf(int pair, int what) {
            switch (what) {
                case 0: return pair / (16 * 17) % 8;
                case 1: return pair / 17 % 16;
                case 2: return pair % 17 - 8;
                default: return pair / (8 * 16 * 17);
            }
        }

        private static boolean isApart(long shifts, int dx) {
            return (shifts >>> REACH + dx & 1) == 0;
        }

        /** Clashes of each a with the b's that follow it, and with those that are behind it. */
        private static long clashesAcross(long shifts, long back, int dx) {
            long behind = dx < REACH ? back >>> REACH - dx : back << dx - REACH;
            return shifts >>> REACH + dx | behind;
        }

        private static long mirrored(long shifts) {
            long result = 0;
            for (int i = 0; i <= 2 * REACH; i++) {
                result = result << 1 | shifts >>> i & 1;
            }
            return result;
        }
    }

    private static final class Punch {
        final int kind, formNumber, x, y, thick;
        final Shape form;

        Punch(int kind, int formNumber, Shape form, int x, int y, int thick) {
            this.kind = kind;
            this.formNumber = formNumber;
            this.form = form;
            this.x = x;
            this.y = y;
            this.thick = thick;
        }

        int strength() {
            int whole = form.edge() * thick;
            return kind == BEND ? whole / 2 : whole;
        }

        /** What it adds to its STATION's FORCE (0), the sums for CENTRE (1, 2), PUNCHES (3). */
        long share(int what) {
            switch (what) {
                case 0: return strength();
                case 1: return (long) strength() * (2 * x + form.width);
                case 2: return (long) strength() * (2 * y + form.height);
                default: return 1;
            }
        }
    }

    private static final class Laws {
        /** Bit a of before[b]: a LAW has a ahead of b. */
        final int[] before = new int[MOST_PUNCHES];

        boolean hasLaw(int a, int b) {
            return (before[b] >>> a & 1) != 0;
        }

        /** Makes a LAW, or ends the one that there is. */
        void change(int a, int b) {
            before[b] ^= 1 << a;
        }

        int count() {
            int found = 0;
            for (int b = 0; b < MOST_PUNCHES; b++) {
                found += Integer.bitCount(before[b]);
            }
            return found;
        }

        boolean mustLead(int a, int b) {
            int leading = before[b];
            // A chain of LAWS has fewer links than there are PUNCHES.
            for (int round = 1; round < MOST_PUNCHES; round++) {
                for (int p = 0; p < MOST_PUNCHES; p++) {
                    if ((leading >>> p & 1) != 0) {
                        leading |= before[p];
                    }
                }
            }
            return (leading >>> a & 1) != 0;
        }
    }

    /** The least plan of STATIONS, found station by station over all sets of punches that are done. */
    private static final class Plan {
        private static final int SETS = 1 << MOST_PUNCHES, DIGIT = 4;

        boolean isFresh;
        int count;
        /** Bit q of fits[p]: THE WALL lets both be in one STATION. */
        final int[] fits = new int[MOST_PUNCHES];
        /** Of each set: who else fits to all of it; -1: the set can't be in one STATION. */
        private final int[] joins = new int[SETS];
        /** Of each set that can be done by now: its least row of STATIONS, a digit a punch; -1: it can't. */
        private long[] done = new long[SETS];
        private long[] next = new long[SETS];
        private long row;
        private int punches;

        boolean hasStation(int station) {
            return isWithin(station, 0, count - 1);
        }

        int stationOf(int p) {
            return (int) (row >>> DIGIT * (punches - 1 - p)) & 15;
        }

        void make(int n, int[] before) {
            punches = n;
            int all = (1 << n) - 1;
            findJoins(all);
            clear(done, all);
            done[0] = 0;
            for (count = 0; count < n && done[all] < 0; count++) {
                addStation(all, before);
            }
            row = done[all];
            isFresh = true;
        }

        private void findJoins(int all) {
            joins[0] = all;
            for (int p = 0; p < punches; p++) {
                for (int set = 0; set < 1 << p; set++) {
                    boolean isOne = joins[set] >= 0 && (joins[set] >>> p & 1) != 0;
                    joins[set | 1 << p] = isOne ? joins[set] & fits[p] : -1;
                }
            }
        }

        private static void clear(long[] rows, int all) {
            for (int set = 0; set <= all; set++) {
                rows[set] = -1;
            }
        }

        private void addStation(int all, int[] before) {
            clear(next, all);
            for (int set = 0; set < all; set++) {
                if (done[set] >= 0) {
                    fillStation(set, readyAfter(set, before));
                }
            }
            long[] spare = done;
            done = next;
            next = spare;
        }

        private int readyAfter(int set, int[] before) {
            int ready = 0;
            for (int p = 0; p < punches; p++) {
                if ((set >>> p & 1) == 0 && (before[p] & ~set) == 0) {
                    ready |= 1 << p;
                }
            }
            return ready;
        }

        /** Only sets that nobody ready can join: else he could come from a later STATION to a lesser row. */
        private void fillStation(int set, int ready) {
            for (int in = ready; in > 0; in = in - 1 & ready) {
                if (joins[in] >= 0 && (joins[in] & ready) == 0) {
                    long found = done[set] + count * digitsOf(in);
                    int then = set | in;
                    if (next[then] < 0 || found < next[then]) {
                        next[then] = found;
                    }
                }
            }
        }

        private long digitsOf(int set) {
            long digits = 0;
            for (int p = 0; p < punches; p++) {
                digits = digits << DIGIT | set >>> p & 1;
            }
            return digits;
        }
    }

    /** Spreads the forces of a station over steps. */
    private static final class Press {
        private final int[] forces = new int[MOST_PUNCHES];
        private final int[] steps = new int[MOST_STEPS];
        private int count, sum, least, floor;

        void clear() {
            count = 0;
            sum = 0;
        }

        /** The greatest come first: then few ways are gone before the least is found. */
        void add(int force) {
            if (count >= MOST_PUNCHES) {
                return;
            }
            int place = count;
            for (; place > 0 && forces[place - 1] < force; place--) {
                forces[place] = forces[place - 1];
            }
            forces[place] = force;
            count++;
            sum += force;
        }

        int leastPeak(int s) {
            if (!isWithin(s, 1, MOST_STEPS)) {
                return sum;
            }
            for (int j = 0; j < MOST_STEPS; j++) {
                steps[j] = 0;
            }
            floor = Math.max(forces[0], (sum + s - 1) / s);
            least = Integer.MAX_VALUE;
            spread(0, s, 0);
            return least;
        }

        private void spread(int i, int s, int high) {
            if (high >= least || least == floor) {
                return;
            }
            if (i >= count) {
                least = high;
                return;
            }
            for (int j = 0; j < s; j++) {
                if (!hasTwin(j)) {
                    steps[j] += forces[i];
                    spread(i + 1, s, Math.max(high, steps[j]));
                    steps[j] -= forces[i];
                }
            }
        }

        /** Of steps that bear the same the first stands for all. */
        private boolean hasTwin(int j) {
            for (int k = 0; k < j; k++) {
                if (steps[k] == steps[j]) {
                    return true;
                }
            }
            return false;
        }
    }

    /** Slits widths. A way's price has the order that is asked: fewest strips, most of w0, most of w1. */
    private static final class Coil {
        private static final int BITS = 11;
        private static final long STRIP = 1L << 2 * BITS;

        private final long[] prices = new long[MOST_WIDTH + 1];

        /** The least price of each width up to this one that strips fill wholly; -1: none do. */
        void price(int width, int w0, int w1, int w2) {
            prices[0] = 0;
            for (int u = 1; u <= width; u++) {
                long first = priceWith(u, w0, STRIP - (1L << BITS));
                long second = priceWith(u, w1, STRIP - 1);
                long third = priceWith(u, w2, STRIP);
                prices[u] = lesser(lesser(first, second), third);
            }
        }

        private long priceWith(int u, int strip, long price) {
            if (strip == 0 || strip > u || prices[u - strip] < 0) {
                return -1;
            }
            return prices[u - strip] + price;
        }

        private static long lesser(long a, long b) {
            return a < 0 || b >= 0 && b < a ? b : a;
        }

        int answer(int width, int what) {
            int filled = width;
            while (filled > 0 && prices[filled] < 0) {
                filled--;
            }
            long strips = prices[filled] + STRIP - 1 >> 2 * BITS;
            long favoured = strips * STRIP - prices[filled];
            int ofFirst = (int) (favoured >> BITS);
            int ofSecond = (int) (favoured & (1 << BITS) - 1);
            switch (what) {
                case 0: return width - filled;
                case 1: return (int) strips;
                case 2: return ofFirst;
                case 3: return ofSecond;
                default: return (int) strips - ofFirst - ofSecond;
            }
        }
    }

    /** A row of numbers of a LANE, or nothing. */
    private static final class Sheet {
        private static final int NOTHING = -1;

        final int[] cells = new int[MOST_CELLS];
        int lane = NOTHING;
        private int length;

        boolean hasRow() {
            return lane != NOTHING;
        }

        void renew(int newLane, int n) {
            lane = newLane;
            length = n;
            for (int i = 0; i < MOST_CELLS; i++) {
                cells[i] = 0;
            }
        }

        void drop() {
            lane = NOTHING;
            length = 0;
        }

        /** The FAULT of taking so many cells from i on as of a LANE; 0: none. */
        int faultOf(int asLane, int i, int many) {
            if (!hasRow()) {
                return NULL;
            }
            if (lane != asLane) {
                return CAST;
            }
            return i < 0 || i > length - many ? INDEX : 0;
        }

        void write(int i, int v) {
            switch (lane) {
                case 0: cells[i] = (byte) v; break;
                case 1: cells[i] = (short) v; break;
                default: cells[i] = v; break;
            }
        }

        /** Eight rows of eight cells, a byte each. */
        long cellsFrom(int i) {
            long found = 0;
            for (int y = SIDE - 1; y >= 0; y--) {
                found = found << SIDE | cells[i + y] & 0xFF;
            }
            return found;
        }
    }
}
