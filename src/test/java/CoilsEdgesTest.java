/** Part 3 of the document, COILS, SHEETS and parts: promises 20 to 30, each sentence at its edges. */
public final class CoilsEdgesTest extends Edges {
    private static final int[] LANE_LEAST = {-128, -32768, LEAST}, LANE_MOST = {127, 32767, MOST};

    public static void main(String[] args) {
        ranges20();
        left20();
        fewest20();
        allWays20();
        ranges21();
        size21();
        newRow21();
        lose22();
        places23();
        lanes23();
        faults23();
        places24();
        lanes24();
        faults24();
        tell25();
        keep26();
        as27();
        trace28();
        numbers29();
        refused29();
        others29();
        ranges30();
        counts30();
        end();
    }

    private static void ranges20() {
        sentence(20, "OUTSIDE: width, w0, w1, w2, all three are 0, what");
        StripDies x = new StripDies();
        dueRange("slit, width", 1, 2000, OUTSIDE, width -> x.slit(width, 1, 1, 1, 0));
        dueRange("slit, w0", 0, 500, OUTSIDE, w -> x.slit(9, w, 1, 1, 0));
        dueRange("slit, w1", 0, 500, OUTSIDE, w -> x.slit(9, 1, w, 1, 0));
        dueRange("slit, w2", 0, 500, OUTSIDE, w -> x.slit(9, 1, 1, w, 0));
        dueRange("slit, w0 alone", 1, 500, OUTSIDE, w -> x.slit(9, w, 0, 0, 0));
        dueRange("slit, w1 alone", 1, 500, OUTSIDE, w -> x.slit(9, 0, w, 0, 0));
        dueRange("slit, w2 alone", 1, 500, OUTSIDE, w -> x.slit(9, 0, 0, w, 0));
        dueAll("slit to none", what -> x.slit(9, 0, 0, 0, what), OUTSIDE, OUTSIDE, OUTSIDE, OUTSIDE, OUTSIDE, OUTSIDE);
        due("slit, strips that make 0 together", x.slit(9, 1, -1, 0, 0), OUTSIDE);
        due("slit, its fault", x.fault(), 0);
    }

    private static void dueSlit(int width, int w0, int w1, int w2, long... answers) {
        StripDies x = new StripDies();
        dueAll("slit(" + width + ", " + w0 + ", " + w1 + ", " + w2 + ")", what -> x.slit(width, w0, w1, w2, what), OUTSIDE, answers);
    }

    private static void left20() {
        sentence(20, "SLIT: the least that is left of the width");
        dueSlit(1, 1, 0, 0, 0, 1, 1, 0, 0);
        dueSlit(1, 0, 1, 0, 0, 1, 0, 1, 0);
        dueSlit(1, 0, 0, 1, 0, 1, 0, 0, 1);
        dueSlit(1, 2, 2, 2, 1, 0, 0, 0, 0);
        dueSlit(499, 500, 500, 500, 499, 0, 0, 0, 0);
        dueSlit(500, 500, 0, 0, 0, 1, 1, 0, 0);
        dueSlit(501, 500, 0, 0, 1, 1, 1, 0, 0);
        dueSlit(999, 0, 500, 0, 499, 1, 0, 1, 0);
        dueSlit(1999, 500, 0, 0, 499, 3, 3, 0, 0);
        dueSlit(2000, 500, 0, 0, 0, 4, 4, 0, 0);
        dueSlit(2000, 0, 0, 499, 4, 4, 0, 0, 4);
        dueSlit(2000, 1, 0, 0, 0, 2000, 2000, 0, 0);
        dueSlit(2000, 0, 1, 0, 0, 2000, 0, 2000, 0);
        dueSlit(2000, 0, 0, 1, 0, 2000, 0, 0, 2000);
        dueSlit(2000, 500, 499, 1, 0, 4, 4, 0, 0);
        dueSlit(1999, 500, 499, 1, 0, 4, 3, 1, 0);
        // Less is left with more strips, and with none of the widest.
        dueSlit(11, 7, 5, 0, 1, 2, 0, 2, 0);
        dueSlit(12, 10, 3, 0, 0, 4, 0, 4, 0);
    }

    private static void fewest20() {
        sentence(20, "of several ways the one with the fewest strips, then the most of w0, then of w1");
        dueSlit(12, 3, 4, 6, 0, 2, 0, 0, 2);
        dueSlit(12, 2, 3, 4, 0, 3, 0, 0, 3);
        dueSlit(10, 4, 5, 6, 0, 2, 1, 0, 1);
        dueSlit(10, 6, 5, 4, 0, 2, 1, 0, 1);
        dueSlit(10, 5, 4, 6, 0, 2, 2, 0, 0);
        dueSlit(2000, 1, 1, 1, 0, 2000, 2000, 0, 0);
        dueSlit(2000, 0, 1, 1, 0, 2000, 0, 2000, 0);
        dueSlit(2000, 2, 1, 1, 0, 1000, 1000, 0, 0);
        dueSlit(1999, 2, 1, 1, 0, 1000, 999, 1, 0);
        dueSlit(1999, 1, 2, 1, 0, 1000, 1, 999, 0);
        dueSlit(1999, 1, 1, 2, 0, 1000, 1, 0, 999);
        dueSlit(1999, 0, 1, 2, 0, 1000, 0, 1, 999);
        dueSlit(7, 3, 3, 3, 1, 2, 2, 0, 0);
        dueSlit(7, 0, 3, 3, 1, 2, 0, 2, 0);
    }

    private static void allWays20() {
        sentence(20, "each as often as one likes");
        for (int width = 1; width <= 20; width++) {
            for (int widths = 1; widths < 6 * 6 * 6; widths++) {
                int w0 = widths / 36, w1 = widths / 6 % 6, w2 = widths % 6;
                dueSlit(width, w0, w1, w2, leastWay(width, w0, w1, w2));
            }
        }
    }

    private static long[] leastWay(int width, int w0, int w1, int w2) {
        long[] least = null;
        for (int a = 0; a <= (w0 == 0 ? 0 : width); a++) {
            for (int b = 0; b <= (w1 == 0 ? 0 : width); b++) {
                for (int c = 0; c <= (w2 == 0 ? 0 : width); c++) {
                    long[] way = {width - a * w0 - b * w1 - c * w2, a + b + c, a, b, c};
                    if (way[0] >= 0 && (least == null || isLess(way, least))) {
                        least = way;
                    }
                }
            }
        }
        return least;
    }

    private static boolean isLess(long[] way, long[] other) {
        if (way[0] != other[0] || way[1] != other[1]) {
            return way[0] != other[0] ? way[0] < other[0] : way[1] < other[1];
        }
        return way[2] != other[2] ? way[2] > other[2] : way[3] > other[3];
    }

    private static void ranges21() {
        sentence(21, "A SHEET gets a new row: 1. UNKNOWN; OUTSIDE: lane, n above 64");
        dueRange("sheet", 0, 3, UNKNOWN, k -> new StripDies().sheet(k, 0, 1));
        dueRange("sheet of lane", 0, 2, OUTSIDE, lane -> new StripDies().sheet(0, lane, 1));
        for (int n : new int[] {0, 1, 7, 8, 63, 64}) {
            due("sheet of " + n, new StripDies().sheet(3, 2, n), 1);
        }
        for (int n : new int[] {65, 66, MOST - 1, MOST}) {
            StripDies x = new StripDies();
            due("sheet of " + n, x.sheet(0, 0, n), OUTSIDE);
            due("its fault", x.fault(), 0);
            due("it has nothing", x.lose(0), 0);
        }
    }

    private static void size21() {
        sentence(21, "SIZE (a length below 0)");
        for (int n : new int[] {-1, -2, LEAST + 1, LEAST}) {
            StripDies x = new StripDies();
            due("sheet of " + n, x.sheet(0, 0, n), SIZE);
            due("its fault", x.fault(), 4);
            due("it has nothing", x.lose(0), 0);
            x.sheet(1, 1, 1);
            x.put(1, 0, 7);
            due("sheet of " + n + " in place of a row", x.sheet(1, 2, n), SIZE);
            due("the row is there", x.at(1, 0, 1), 7);
            due("lane outside, " + n, x.sheet(1, 3, n), OUTSIDE);
            due("its fault", x.fault(), 0);
            due("unknown, " + n, x.sheet(4, 0, n), UNKNOWN);
        }
    }

    private static void newRow21() {
        sentence(21, "a row of 0 .. 64 numbers (0 at first)");
        StripDies x = new StripDies();
        x.sheet(0, 2, 64);
        for (int i = 0; i < 64; i++) {
            due("cell " + i + " at first", x.at(0, i, 2), 0);
            x.put(0, i, i + 1);
        }
        due("a new row", x.sheet(0, 2, 64), 1);
        for (int i = 0; i < 64; i++) {
            due("cell " + i + " of the new row", x.at(0, i, 2), 0);
        }
        x.put(0, 1, 9);
        x.sheet(0, 2, 1);
        due("a shorter row", x.put(0, 1, 1), INDEX);
        x.sheet(0, 1, 2);
        due("a longer row of another lane", x.at(0, 1, 1), 0);
        due("its old lane", x.at(0, 1, 2), LOST);
        x.sheet(0, 0, 0);
        due("a row of none", x.put(0, 0, 1), INDEX);
        due("is a row", x.lose(0), 1);
        due("of a sheet beside it", x.lose(1), 0);
    }

    private static void lose22() {
        sentence(22, "A SHEET has nothing: 1; 0: it had nothing. UNKNOWN.");
        dueRange("lose", 0, 3, UNKNOWN, k -> new StripDies().lose(k));
        for (int k = 0; k < 4; k++) {
            StripDies x = new StripDies();
            due("lose nothing", x.lose(k), 0);
            for (int n : new int[] {0, 1, 64}) {
                x.sheet(k, 0, n);
                due("lose a row of " + n, x.lose(k), 1);
                due("lose it again", x.lose(k), 0);
                due("put behind it", x.put(k, 0, 1), NULL);
            }
        }
        StripDies x = new StripDies();
        x.sheet(1, 0, 1);
        x.sheet(2, 0, 1);
        x.lose(1);
        due("the one beside it stays", x.put(2, 0, 1), 1);
    }

    private static void places23() {
        sentence(23, "Cell i of a SHEET becomes v: 1");
        for (int n : new int[] {1, 2, 8, 63, 64}) {
            StripDies x = new StripDies();
            x.sheet(2, 2, n);
            dueRange("put of " + n + " to", 0, n - 1, INDEX, i -> x.put(2, i, 5));
            x.sheet(2, 2, n);
            due("put to the last", x.put(2, n - 1, 6), 1);
            for (int i = 0; i < n; i++) {
                due("cell " + i + " of " + n, x.at(2, i, 2), i == n - 1 ? 6 : 0);
            }
        }
        StripDies x = new StripDies();
        x.sheet(0, 0, 0);
        for (int i : new int[] {LEAST, -1, 0, 1, 63, 64, MOST}) {
            due("put of 0 to " + i, x.put(0, i, 1), INDEX);
        }
    }

    private static void lanes23() {
        sentence(23, "what comes to a cell of it is cut to its LANE");
        for (int lane = 0; lane < 3; lane++) {
            StripDies x = new StripDies();
            x.sheet(0, lane, 1);
            int least = LANE_LEAST[lane], most = LANE_MOST[lane];
            // Beyond an end the numbers go on from the other one; those of an int do so by themselves.
            int[][] cut = {{0, 0}, {1, 1}, {-1, -1}, {least, least}, {least + 1, least + 1}, {most, most}, {most - 1, most - 1},
                {least - 1, most}, {least - 2, most - 1}, {most + 1, least}, {most + 2, least + 1}};
            for (int[] one : cut) {
                due("put", x.put(0, 0, one[0]), 1);
                due("lane " + lane + ", " + one[0], x.at(0, 0, lane), one[1]);
            }
        }
        due("an int as a byte", byteOf(0x12345680), -128);
        due("an int as a byte", byteOf(0x1234567F), 127);
        due("the least int as a byte", byteOf(LEAST), 0);
        due("the most int as a byte", byteOf(MOST), -1);
    }

    private static long byteOf(int v) {
        StripDies x = new StripDies();
        x.sheet(0, 0, 1);
        x.put(0, 0, v);
        return x.at(0, 0, 0);
    }

    private static void faults23() {
        sentence(23, "UNKNOWN; NULL; INDEX");
        StripDies x = new StripDies();
        dueRange("put to sheet", 0, 3, UNKNOWN, k -> x.put(k, 0, 0));
        for (int i : new int[] {LEAST, -1, 0, 64, MOST}) {
            due("put to nothing, " + i, x.put(0, i, 1), NULL);
            due("its fault", x.fault(), 1);
            due("put to no sheet, " + i, x.put(4, i, 1), UNKNOWN);
            due("its fault", x.fault(), 0);
        }
        x.sheet(0, 0, 3);
        due("put behind the last", x.put(0, 3, 1), INDEX);
        due("its fault", x.fault(), 3);
        due("put to the last", x.put(0, 2, 1), 1);
        due("its fault", x.fault(), 0);
    }

    private static void places24() {
        sentence(24, "Cell i of what a SHEET has");
        for (int lane = 0; lane < 3; lane++) {
            for (int n : new int[] {1, 2, 64}) {
                StripDies x = new StripDies();
                int as = lane;
                x.sheet(lane, lane, n);
                for (int i = 0; i < n; i++) {
                    x.put(lane, i, i - 3);
                }
                dueRange("at of " + n, 0, n - 1, LOST, i -> x.at(as, i, as));
                for (int i = 0; i < n; i++) {
                    due("at " + i, x.at(lane, i, lane), i - 3);
                }
                due("at behind the last", x.at(lane, n, lane), LOST);
                due("its fault", x.fault(), 3);
            }
        }
    }

    private static void lanes24() {
        sentence(24, "taken as a row of a LANE");
        StripDies x = new StripDies();
        for (int k = 0; k < 3; k++) {
            x.sheet(k, k, 1);
            x.put(k, 0, 77);
        }
        for (int k = 0; k < 3; k++) {
            for (int lane = 0; lane < 3; lane++) {
                due("at(" + k + ", 0, " + lane + ")", x.at(k, 0, lane), k == lane ? 77 : LOST);
                due("its fault", x.fault(), k == lane ? 0 : 2);
            }
        }
        sentence(24, "OUTSIDE: lane");
        for (int k = 0; k < 4; k++) {
            for (int lane : new int[] {LEAST, -1, 3, MOST}) {
                x.at(k, 9, 0);
                due("at(" + k + ", 0, " + lane + ")", x.at(k, 0, lane), LOST);
                due("its fault", x.fault(), 0);
            }
        }
    }

    private static void dueLost(String what, StripDies x, int k, int i, int lane, int fault) {
        due(what, x.at(k, i, lane), LOST);
        due(what + ", its fault", x.fault(), fault);
    }

    private static void faults24() {
        sentence(24, "LOST: UNKNOWN, OUTSIDE: lane; FAULTS CAST (nothing is no CAST), NULL, INDEX");
        StripDies x = new StripDies();
        x.sheet(1, 1, 2);
        x.sheet(2, 0, 0);
        for (int k : new int[] {LEAST, -1, 4, MOST}) {
            dueLost("at of sheet " + k, x, k, 0, 1, 0);
            dueLost("at of sheet " + k + ", all else wrong", x, k, -1, 3, 0);
        }
        for (int lane = 0; lane < 3; lane++) {
            dueLost("at of nothing, lane " + lane, x, 0, 0, lane, 1);
            dueLost("at of nothing, lane " + lane + ", index wrong", x, 0, -1, lane, 1);
        }
        dueLost("at of another lane, index right", x, 1, 0, 0, 2);
        dueLost("at of another lane, index wrong", x, 1, 2, 0, 2);
        dueLost("at below 0", x, 1, -1, 1, 3);
        dueLost("at behind the last", x, 1, 2, 1, 3);
        dueLost("at of a row of none", x, 2, 0, 0, 3);
        dueLost("at of a row of none, of another lane", x, 2, 0, 1, 2);
        due("at", x.at(1, 1, 1), 0);
        due("its fault", x.fault(), 0);
        x.lose(1);
        dueLost("at of what is lost, of another lane", x, 1, 0, 0, 1);
    }

    /** A cut, a pilot and a bend of each of these shapes: punches 0 to 2, 3 to 5 .. */
    private static StripDies kinds(int[]... shapes) {
        StripDies x = withShapes(shapes);
        for (int s = 0; s < shapes.length; s++) {
            for (int kind = 0; kind < 3; kind++) {
                x.punch(kind, s, 0, 0, 1);
            }
        }
        return x;
    }

    private static void tell25() {
        sentence(25, "CUT (1): its SHAPE's cells. PILOT (2): 100 and what CUT's gives. BEND (3): what PILOT's gives, and what CUT's gives");
        int[] told = {1, 101, 102, 64, 164, 228};
        int[] traces = {1, 2 * 31 + 1, ((3 * 31 + 2) * 31 + 1) * 31 + 1};
        for (int p = 0; p < 6; p++) {
            StripDies x = kinds(new int[] {1}, BLOCK);
            due("tell(" + p + ")", x.tell(p), told[p]);
            due("its trace", x.trace(), traces[p % 3]);
        }
        sentence(25, "UNKNOWN");
        StripDies x = kinds(new int[] {1});
        for (int p : new int[] {LEAST, -1, 3, MOST}) {
            due("tell(" + p + ")", x.tell(p), UNKNOWN);
            due("its trace", x.trace(), 0);
        }
        due("tell of none", new StripDies().tell(0), UNKNOWN);
        dueRange("tell of ten,", 0, 9, UNKNOWN, p -> cutsAt(0, 0, 0, 0, 0, 0, 0, 0, 0, 0).tell(p));
    }

    private static void keep26() {
        sentence(26, "KEPT by a lent body (4): its number, and its kind; BEND has its own (5): 50");
        StripDies x = kinds(new int[] {1}, new int[] {3}, BLOCK);
        x.punch(1, 0, 0, 0, 1);
        int[] kept = {0, 2, 50, 3, 5, 50, 6, 8, 50, 10};
        int trace = 0;
        for (int p = 0; p < 10; p++) {
            due("keep(" + p + ")", x.keep(p), kept[p]);
            trace = 31 * trace + (kept[p] == 50 ? 5 : 4);
            due("its trace", x.trace(), trace);
        }
        sentence(26, "UNKNOWN");
        for (int p : new int[] {LEAST, -1, 10, MOST}) {
            due("keep(" + p + ")", x.keep(p), UNKNOWN);
            due("its trace", x.trace(), trace);
        }
        due("keep of none", new StripDies().keep(0), UNKNOWN);
    }

    private static void as27() {
        sentence(27, "CAST: it is none (each is a CUT, too; a BEND is a PILOT)");
        StripDies x = kinds(new int[] {1});
        for (int p = 0; p < 3; p++) {
            for (int kind = 0; kind < 3; kind++) {
                boolean isOne = kind <= p;
                due("as(" + p + ", " + kind + ")", x.as(p, kind), isOne ? 1 : CAST);
                due("its fault", x.fault(), isOne ? 0 : 2);
            }
            for (int kind : new int[] {LEAST, -1, 3, MOST}) {
                x.as(0, 2);
                due("as(" + p + ", " + kind + ")", x.as(p, kind), OUTSIDE);
                due("its fault", x.fault(), 0);
            }
        }
        for (int p : new int[] {LEAST, -1, 3, MOST}) {
            for (int kind : new int[] {-1, 0, 3}) {
                x.as(0, 2);
                due("as(" + p + ", " + kind + ")", x.as(p, kind), UNKNOWN);
                due("its fault", x.fault(), 0);
            }
        }
        due("it leaves no trace", x.trace(), 0);
        due("nor another kind", x.punched(2, 0), 2);
        due("as of none", new StripDies().as(0, 0), UNKNOWN);
    }

    private static void trace28() {
        sentence(28, "TRACE (an int that wraps, 0 at first, becomes 31 times it and the number)");
        StripDies x = kinds(new int[] {1});
        due("at first", x.trace(), 0);
        int[] traces = {1, 32, 993, 30784, 954305, 29583456, 917087137, -1635069824, 852443009, 655929504, -1141021855};
        for (int want : traces) {
            x.tell(0);
            due("trace of cuts", x.trace(), want);
        }
        due("asked again", x.trace(), traces[10]);
        StripDies y = kinds(new int[] {1});
        long exact = 0;
        for (int k = 0; k < 40; k++) {
            y.tell(2);
            y.keep(k % 3);
            for (int body : new int[] {3, 2, 1, 1, k % 3 == 2 ? 5 : 4}) {
                exact = (31 * exact + body) % (1L << 32);
            }
            due("trace of bends", y.trace(), exact >= 1L << 31 ? exact - (1L << 32) : exact);
        }
    }

    private static void numbers29() {
        sentence(29, "it answers -10 less it .. fault() tells it");
        StripDies x = new StripDies();
        due("ahead of any", x.fault(), 0);
        due("shape, NULL", x.shape(0, 0, 0), -11);
        due("its fault", x.fault(), 1);
        due("sheet, SIZE", x.sheet(0, 0, -1), -14);
        due("its fault", x.fault(), 4);
        due("put, NULL", x.put(0, 0, 0), -11);
        due("its fault", x.fault(), 1);
        due("a sheet came to none", x.sheet(0, 0, 8), 1);
        due("its fault", x.fault(), 0);
        due("put, INDEX", x.put(0, 8, 0), -13);
        due("its fault", x.fault(), 3);
        due("shape, CAST", x.shape(0, 1, 0), -12);
        due("its fault", x.fault(), 2);
        due("put came to none", x.put(0, 0, 1), 1);
        due("its fault", x.fault(), 0);
        due("shape, INDEX", x.shape(0, 0, 1), -13);
        due("its fault", x.fault(), 3);
        due("shape came to none", x.shape(0, 0, 0), 0);
        due("its fault", x.fault(), 0);
        x.punch(0, 0, 0, 0, 1);
        due("as, CAST", x.as(0, 1), -12);
        due("its fault, asked again", x.fault() * 10 + x.fault(), 22);
        due("as came to none", x.as(0, 0), 1);
        due("its fault", x.fault(), 0);
        due("at, CAST", x.at(0, 0, 2), LOST);
        due("its fault", x.fault(), 2);
        due("at came to none", x.at(0, 0, 0), 1);
        due("its fault", x.fault(), 0);
    }

    private static void refused29() {
        sentence(29, "0: it came to none, or was refused");
        StripDies x = kinds(new int[] {1});
        for (int s = 1; s < 12; s++) {
            x.turn(0, 0);
        }
        x.sheet(0, 0, 8);
        for (int refused = 0; refused < 12; refused++) {
            x.put(1, 0, 0);
            due("a fault", x.fault(), 1);
            refuse(x, refused);
            due("fault behind refusal " + refused, x.fault(), 0);
        }
    }

    /** One of the refused calls of those that name FAULTS. */
    private static void refuse(StripDies x, int which) {
        switch (which) {
            case 0: due("shape, sheet", x.shape(4, 0, 0), UNKNOWN); break;
            case 1: due("shape, lane", x.shape(0, 3, 0), OUTSIDE); break;
            case 2: due("shape, empty", x.shape(0, 0, 0), OUTSIDE); break;
            case 3: due("shape, full", x.shape(3, 2, 0), FULL); break;
            case 4: due("sheet", x.sheet(-1, 0, 0), UNKNOWN); break;
            case 5: due("sheet, lane", x.sheet(0, -1, 0), OUTSIDE); break;
            case 6: due("sheet, too long", x.sheet(0, 0, 65), OUTSIDE); break;
            case 7: due("put", x.put(4, 0, 0), UNKNOWN); break;
            case 8: due("at", x.at(4, 0, 0), LOST); break;
            case 9: due("at, lane", x.at(0, 0, 3), LOST); break;
            case 10: due("as", x.as(3, 0), UNKNOWN); break;
            default: due("as, kind", x.as(0, 3), OUTSIDE); break;
        }
    }

    private static void others29() {
        sentence(29, "The FAULT of the latest call that names one");
        StripDies x = kinds(new int[] {1}, new int[] {3});
        due("put, INDEX", x.put(3, 8, 0), INDEX);
        for (int v : new int[] {0, 1, 99}) {
            x.turn(v, v);
            x.about(v, v);
            x.has(v, v, v);
            x.rule(v, v);
            x.alone(v, v);
            x.pair(v, v, v, v, v, v);
            x.best(v, v, v);
            due("behind calls of part 1 with " + v, x.fault(), 3);
            x.punch(v, v, v, v, v);
            x.ahead(v, v + 1);
            x.must(v, v);
            x.together(v, v);
            x.free(v, v);
            x.stations();
            x.station(v);
            x.force(v, v);
            x.peak(v, v);
            x.punched(v, v);
            due("behind calls of part 2 with " + v, x.fault(), 3);
            x.slit(v, v, v, v, v);
            x.lose(v);
            x.tell(v);
            x.keep(v);
            x.trace();
            x.told(v);
            due("behind calls of part 3 with " + v, x.fault(), 3);
        }
    }

    private static void ranges30() {
        StripDies x = kinds(new int[] {1}, new int[] {3});
        x.rule(0, 3);
        x.rule(1, 2);
        x.rule(2, 4);
        x.ahead(0, 1);
        sentence(30, "How many: 0 SHAPES, 1 PUNCHES, 2 LAWS, 3 THE WEB, 4 THE MARGIN, 5 THE WALL");
        dueAll("told", x::told, OUTSIDE, 2, 6, 1, 3, 2, 4);
        dueAll("told, at first", new StripDies()::told, OUTSIDE, 0, 0, 0, 0, 0, 0);
    }

    private static void counts30() {
        sentence(30, "How many: 0 SHAPES, 1 PUNCHES, 2 LAWS");
        StripDies x = withShapes(new int[] {1});
        for (int s = 1; s < 13; s++) {
            due("shapes", x.told(0), s);
            x.turn(0, 0);
        }
        due("shapes, full", x.told(0), 12);
        for (int p = 0; p < 11; p++) {
            due("punches", x.told(1), p);
            x.punch(0, 0, 0, 0, 1);
        }
        due("punches, full", x.told(1), 10);
        for (int p = 1; p < 10; p++) {
            due("laws", x.told(2), p - 1);
            x.ahead(9, p - 1);
            x.ahead(9, p - 1);
            x.ahead(p - 1, 9);
        }
        due("laws", x.told(2), 9);
        x.free(9, 8);
        x.free(9, 8);
        due("laws, one free", x.told(2), 8);
    }
}
