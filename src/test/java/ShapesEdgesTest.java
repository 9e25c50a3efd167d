/** Part 1 of the document, SHAPES: promises 1 to 9, each sentence at its edges. */
public final class ShapesEdgesTest extends Edges {
    private static final int[] CELL = {1}, TWO = {3};

    public static void main(String[] args) {
        newObject1();
        sheets2();
        lanes2();
        places2();
        rows2();
        bits2();
        empty2();
        corner2();
        twelve2();
        copy2();
        ranges3();
        turns3();
        twelve3();
        about4();
        sizes4();
        edges4();
        pieces4();
        has5();
        rules6();
        ranges7();
        pitch7();
        strip7();
        ranges8();
        apart8();
        pitch8();
        strip8();
        waste8();
        ranges9();
        turns9();
        shifts9();
        twelve9();
        ties9();
        rules9();
        end();
    }

    private static void newObject1() {
        sentence(1, "No SHAPES, PUNCHES, SHEETS.");
        StripDies x = new StripDies();
        for (int what = 0; what < 6; what++) {
            due("told(" + what + ")", x.told(what), 0);
        }
        for (int n = -1; n < 2; n++) {
            due("about(" + n + ", 0)", x.about(n, 0), UNKNOWN);
            due("punched(" + n + ", 0)", x.punched(n, 0), UNKNOWN);
            due("station(" + n + ")", x.station(n), UNKNOWN);
            due("peak(" + n + ", 1)", x.peak(n, 1), UNKNOWN);
        }
        for (int k = 0; k < 4; k++) {
            due("lose(" + k + ")", x.lose(k), 0);
            due("put(" + k + ", 0, 1)", x.put(k, 0, 1), NULL);
        }
        StripDies other = withShapes(CELL);
        other.punch(0, 0, 0, 0, 1);
        due("shapes of an object beside it", x.told(0), 0);
        due("punches of an object beside it", x.told(1), 0);
        due("sheets of an object beside it", x.lose(3), 0);
    }

    private static void sheets2() {
        sentence(2, "UNKNOWN");
        dueRange("shape of sheet", 0, 3, UNKNOWN, k -> {
            StripDies x = new StripDies();
            x.sheet(k, 0, 8);
            x.put(k, 0, 1);
            return x.shape(k, 0, 0);
        });
    }

    private static void lanes2() {
        sentence(2, "OUTSIDE: lane");
        StripDies x = new StripDies();
        for (int lane = 0; lane < 3; lane++) {
            x.sheet(lane, lane, 8);
            x.put(lane, 7, 1);
        }
        for (int lane : new int[] {LEAST, -1, 3, MOST}) {
            for (int k = 0; k < 4; k++) {
                due("shape(" + k + ", " + lane + ", 0)", x.shape(k, lane, 0), OUTSIDE);
            }
        }
        sentence(2, "FAULTS CAST (nothing is no CAST)");
        int shapes = 0;
        for (int k = 0; k < 3; k++) {
            for (int lane = 0; lane < 3; lane++) {
                due("shape(" + k + ", " + lane + ", 0)", x.shape(k, lane, 0), k == lane ? shapes++ : CAST);
                due("its fault", x.fault(), k == lane ? 0 : 2);
            }
        }
        for (int lane = 0; lane < 3; lane++) {
            due("shape(3, " + lane + ", 0)", x.shape(3, lane, 0), NULL);
            due("its fault", x.fault(), 1);
        }
        x.lose(0);
        due("shape of a sheet that has lost its row", x.shape(0, 1, 0), NULL);
    }

    private static void places2() {
        sentence(2, "INDEX: not all eight are there");
        for (int n : new int[] {0, 1, 6, 7, 8, 9, 15, 16, 17, 63, 64}) {
            StripDies x = new StripDies();
            x.sheet(1, 1, n);
            for (int i = 0; i < n; i += 7) {
                x.put(1, i, 1);
            }
            int shapes = 0;
            for (int i : new int[] {LEAST, -8, -1, 0, 1, n - 9, n - 8, n - 7, n - 1, n, 64, MOST - 7, MOST}) {
                boolean areThere = i >= 0 && i <= n - 8;
                due("shape(1, 1, " + i + ") of " + n, x.shape(1, 1, i), areThere ? shapes++ : INDEX);
                due("its fault", x.fault(), areThere ? 0 : 3);
            }
        }
    }

    private static void rows2() {
        sentence(2, "from cells i .. i + 7");
        for (int i : new int[] {0, 1, 55, 56}) {
            StripDies x = new StripDies();
            x.sheet(0, 2, 64);
            for (int y = 0; y < 64; y++) {
                x.put(0, y, 255);
            }
            for (int y = 0; y < 8; y++) {
                x.put(0, i + y, 1 << y);
            }
            due("shape(0, 2, " + i + ")", x.shape(0, 2, i), 0);
            dueRows("cells from " + i, x, 0, 1, 2, 4, 8, 16, 32, 64, 128);
        }
    }

    private static void bits2() {
        sentence(2, "bit 0 is x 0; the lowest eight bits count");
        int[] bytes = {-128, -127, -1, 0, 1, 127};
        int[] wider = {0x7F, 0x80, 0xFF, 0x100, 0x101, 0x180, -1, -255, -256, 0x7FFF, 0x8000};
        for (int lane = 0; lane < 3; lane++) {
            for (int v : lane == 0 ? bytes : wider) {
                StripDies x = new StripDies();
                x.sheet(0, lane, 8);
                x.put(0, 1, v);
                // Cells at x 0 and x 7 and a row ahead of it keep the row of v where it is.
                x.put(0, 0, 0x81);
                due("shape", x.shape(0, lane, 0), 0);
                dueRows("lane " + lane + ", " + v, x, 0, 0x81, v & 255);
            }
        }
    }

    private static void empty2() {
        sentence(2, "OUTSIDE: it is empty");
        for (int lane = 0; lane < 3; lane++) {
            StripDies x = new StripDies();
            x.sheet(0, lane, 10);
            due("shape of nothing but 0", x.shape(0, lane, 0), OUTSIDE);
            due("its fault", x.fault(), 0);
            x.put(0, 0, -1);
            x.put(0, 9, -1);
            x.put(0, 4, 0x100);
            due("shape between cells", x.shape(0, lane, 1), OUTSIDE);
            due("shape from the cell ahead on", x.shape(0, lane, 0), 0);
            due("shape up to the cell behind", x.shape(0, lane, 2), 1);
            x.put(0, 4, 0x101);
            due("shape of one bit", x.shape(0, lane, 1), 2);
            due("shapes", x.told(0), 3);
        }
    }

    private static void corner2() {
        sentence(2, "shifted so that a cell has x 0 and one has y 0");
        for (int y = 0; y < 8; y++) {
            StripDies x = new StripDies();
            for (int bit = 0; bit < 8; bit++) {
                int[] rows = new int[8];
                rows[y] = 1 << bit;
                int s = shapeOf(x, rows);
                due("the cell " + bit + ", " + y + ", moved", x.has(s, 0, 0), 1);
                due("its width", x.about(s, 1), 1);
                due("its height", x.about(s, 2), 1);
            }
        }
        StripDies x = new StripDies();
        dueRows("one has x 0, another y 0", x, shapeOf(x, 0x80, 0, 0, 0, 0, 0, 0, 1), 0x80, 0, 0, 0, 0, 0, 0, 1);
        dueRows("moved along x alone", x, shapeOf(x, 0x80, 0, 0, 0, 0, 0, 0, 2), 0x40, 0, 0, 0, 0, 0, 0, 1);
        dueRows("moved along y alone", x, shapeOf(x, 0, 0x80, 0, 0, 0, 0, 0, 1), 0x80, 0, 0, 0, 0, 0, 1);
        dueRows("not moved", x, shapeOf(x, BLOCK), BLOCK);
    }

    private static void twelve2() {
        sentence(2, "SHAPES, 12 ever, numbered as they come");
        StripDies x = new StripDies();
        x.sheet(0, 0, 8);
        x.put(0, 0, 1);
        for (int s = 0; s < 12; s++) {
            due("no shape " + s + " yet", x.about(s, 0), UNKNOWN);
            due("shape", x.shape(0, 0, 0), s);
            due("shapes", x.told(0), s + 1);
        }
        for (int k = 0; k < 2; k++) {
            due("the thirteenth", x.shape(0, 0, 0), FULL);
            due("its fault", x.fault(), 0);
            due("shapes", x.told(0), 12);
        }
        due("the twelfth", x.about(11, 0), 1);
        due("none behind it", x.about(12, 0), UNKNOWN);
    }

    private static void copy2() {
        sentence(2, "A SHAPE more, from cells i .. i + 7 of a SHEET");
        StripDies x = new StripDies();
        x.sheet(0, 0, 8);
        x.put(0, 0, 3);
        x.shape(0, 0, 0);
        x.put(0, 0, 7);
        dueRows("the sheet changes, it does not", x, 0, 3);
        x.lose(0);
        dueRows("the sheet is lost, it is not", x, 0, 3);
    }

    private static void ranges3() {
        sentence(3, "UNKNOWN; OUTSIDE");
        dueRange("turn of shape", 0, 2, UNKNOWN, s -> withShapes(CELL, CELL, CELL).turn(s, 0));
        dueRange("turn", 0, 7, OUTSIDE, t -> withShapes(CELL).turn(0, t));
        due("turn of none", new StripDies().turn(0, 0), UNKNOWN);
    }

    private static void turns3() {
        sentence(3, "t's rest by 4 times (x, y) becomes (HEIGHT - 1 - y, x) .. of t above 3 each x becomes WIDTH - 1 - x ahead of that");
        int[][][] all = {{{1}}, {{255}}, {{1, 1, 1, 1, 1, 1, 1, 1}}, {{1, 3}}, {{7, 1}}, {{0x8F, 1, 3}}, {{1, 2, 4, 9}},
            {{0x81, 2, 0, 0, 0, 0, 0, 4}}, {BLOCK}, {CHESS}};
        for (int[][] one : all) {
            for (int t = 0; t < 8; t++) {
                StripDies x = withShapes(one);
                due("turn", x.turn(0, t), 1);
                dueRows("turn " + t, x, 1, turned(one[0], t));
                dueRows("what was turned", x, 0, one[0]);
                boolean isAcross = t % 2 == 1;
                due("width in turn " + t, x.about(1, 1), x.about(0, isAcross ? 2 : 1));
                due("height in turn " + t, x.about(1, 2), x.about(0, isAcross ? 1 : 2));
            }
        }
    }

    private static int[] turned(int[] rows, int t) {
        int[] now = t > 3 ? turnedOver(rows) : rows;
        for (int k = 0; k < t % 4; k++) {
            int[] next = new int[widthOf(now)];
            for (int y = 0; y < now.length; y++) {
                for (int x = 0; x < next.length; x++) {
                    next[x] |= (now[y] >> x & 1) << now.length - 1 - y;
                }
            }
            now = next;
        }
        return now;
    }

    private static int[] turnedOver(int[] rows) {
        int[] over = new int[rows.length];
        int wide = widthOf(rows);
        for (int y = 0; y < rows.length; y++) {
            for (int x = 0; x < wide; x++) {
                over[y] |= (rows[y] >> x & 1) << wide - 1 - x;
            }
        }
        return over;
    }

    private static int widthOf(int[] rows) {
        int all = 0;
        for (int row : rows) {
            all |= row;
        }
        return 32 - Integer.numberOfLeadingZeros(all);
    }

    private static void twelve3() {
        sentence(3, "A SHAPE more .. its number .. FULL");
        StripDies x = withShapes(CELL);
        for (int s = 1; s < 12; s++) {
            due("turn", x.turn(s - 1, s % 8), s);
        }
        due("the thirteenth", x.turn(11, 0), FULL);
        due("the thirteenth from a sheet", x.shape(3, 2, 0), FULL);
        due("shapes", x.told(0), 12);
    }

    private static void about4() {
        sentence(4, "Of a SHAPE: 0 how many cells, 1 WIDTH, 2 HEIGHT, 3 EDGE, 4 of how many pieces it is");
        StripDies x = withShapes(CELL, BLOCK, CHESS, new int[] {7, 5, 7, 0, 2});
        dueAll("about the least", what -> x.about(0, what), OUTSIDE, 1, 1, 1, 4, 1);
        dueAll("about the greatest", what -> x.about(1, what), OUTSIDE, 64, 8, 8, 32, 1);
        dueAll("about the one of the greatest edge", what -> x.about(2, what), OUTSIDE, 32, 8, 8, 128, 32);
        dueAll("about one with a hole", what -> x.about(3, what), OUTSIDE, 9, 3, 5, 20, 2);
        dueRange("about shape", 0, 3, UNKNOWN, s -> x.about(s, 0));
        dueAll("about none", what -> x.about(4, what), UNKNOWN, UNKNOWN, UNKNOWN, UNKNOWN, UNKNOWN, UNKNOWN);
    }

    private static void sizes4() {
        sentence(4, "Its WIDTH, HEIGHT: the greatest x, y and one");
        for (int n = 1; n <= 8; n++) {
            int[] column = new int[n], ends = new int[n];
            java.util.Arrays.fill(column, 1);
            ends[0] = 1;
            ends[n - 1] |= 1 << n - 1;
            StripDies x = withShapes(new int[] {(1 << n) - 1}, column, ends);
            due("width of a row of " + n, x.about(0, 1), n);
            due("height of a row of " + n, x.about(0, 2), 1);
            due("width of a column of " + n, x.about(1, 1), 1);
            due("height of a column of " + n, x.about(1, 2), n);
            due("width between ends", x.about(2, 1), n);
            due("height between ends", x.about(2, 2), n);
            due("edge of a row of " + n, x.about(0, 3), 2 * n + 2);
            due("edge of a column of " + n, x.about(1, 3), 2 * n + 2);
            due("cells of a column of " + n, x.about(1, 0), n);
        }
    }

    private static void edges4() {
        sentence(4, "Its EDGE: how many sides of its cells are not between two of its cells");
        dueEdge("x 7 is not beside x 0 of the next row", 8, 0x80, 0x01);
        dueEdge("a corner alone", 8, 1, 2);
        dueEdge("two rows of eight", 20, 255, 255);
        dueEdge("a frame, in and out", 32 + 24, 0xFF, 0x81, 0x81, 0x81, 0x81, 0x81, 0x81, 0xFF);
        dueEdge("the least", 4, 1);
        dueEdge("the greatest", 128, CHESS);
    }

    private static void dueEdge(String what, int edge, int... rows) {
        due("edge: " + what, withShapes(rows).about(0, 3), edge);
    }

    private static void pieces4() {
        sentence(4, "cells hang together by sides");
        duePieces("x 7 is not beside x 0 of the next row", 2, 0x80, 0x01);
        duePieces("x 7 of the next row is not beside x 0", 2, 0x01, 0x80);
        duePieces("a corner is no side", 2, 1, 2);
        duePieces("the other corner is none", 2, 2, 1);
        duePieces("a gap along x", 2, 5);
        duePieces("a gap along y", 2, 1, 0, 1);
        duePieces("a side along x", 1, 3);
        duePieces("a side along y", 1, 1, 1);
        duePieces("columns", 4, 0x55, 0x55, 0x55, 0x55, 0x55, 0x55, 0x55, 0x55);
        duePieces("a long way to and fro", 1, 0xFF, 0x80, 0xFF, 0x01, 0xFF, 0x80, 0xFF, 0x01);
        duePieces("a frame in a frame", 2, 0xFF, 0x81, 0xBD, 0xA5, 0xA5, 0xBD, 0x81, 0xFF);
        duePieces("a winding way", 1, 0xFF, 0x80, 0xBF, 0xA1, 0xAD, 0xBD, 0x81, 0xFF);
        duePieces("as many as can be", 32, CHESS);
    }

    private static void duePieces(String what, int pieces, int... rows) {
        due("pieces: " + what, withShapes(rows).about(0, 4), pieces);
    }

    private static void has5() {
        sentence(5, "Whether it has a cell: 1, 0 .. OUTSIDE: x, y are not 0 .. 7");
        int[] some = {0x81, 0, 0x10, 0, 0, 0, 0, 0x81};
        StripDies x = withShapes(some, BLOCK, CELL);
        for (int px = -1; px <= 8; px++) {
            for (int py = -1; py <= 8; py++) {
                boolean isIn = px >= 0 && px < 8 && py >= 0 && py < 8;
                String at = px + ", " + py + ")";
                due("has(0, " + at, x.has(0, px, py), isIn ? some[py] >> px & 1 : OUTSIDE);
                due("has(1, " + at, x.has(1, px, py), isIn ? 1 : OUTSIDE);
                due("has(2, " + at, x.has(2, px, py), isIn ? (px == 0 && py == 0 ? 1 : 0) : OUTSIDE);
            }
        }
        dueRange("has, x", 0, 7, OUTSIDE, v -> x.has(1, v, 0));
        dueRange("has, y", 0, 7, OUTSIDE, v -> x.has(1, 0, v));
        dueRange("has of shape", 0, 2, UNKNOWN, s -> x.has(s, 0, 0));
        due("has of none, outside", x.has(3, 8, -1), UNKNOWN);
    }

    private static void rules6() {
        sentence(6, "THE WEB (what 0), MARGIN (1), WALL (2) become v: what it was");
        int[] most = {3, 3, 4};
        for (int what = 0; what < 3; what++) {
            StripDies x = new StripDies();
            int one = what;
            for (int v = 0; v <= most[what]; v++) {
                due("rule(" + what + ", " + v + ")", x.rule(what, v), Math.max(0, v - 1));
                for (int other = 0; other < 3; other++) {
                    due("told of rule " + other, x.told(3 + other), other == what ? v : 0);
                }
            }
            for (int v : new int[] {LEAST, -1, most[what] + 1, MOST}) {
                due("rule(" + what + ", " + v + ")", x.rule(what, v), OUTSIDE);
                due("told behind it", x.told(3 + what), most[what]);
            }
            due("rule to the same", x.rule(what, most[what]), most[what]);
            due("rule to 0", x.rule(what, 0), most[what]);
            dueRange("rule " + what + " to", 0, most[what], OUTSIDE, v -> new StripDies().rule(one, v));
        }
        dueRange("rule", 0, 2, UNKNOWN, what -> new StripDies().rule(what, 0));
    }

    private static void ranges7() {
        sentence(7, "PITCH of a LAYING of a SHAPE (what 0), STRIP (1), SPENT (2), WASTE (3). UNKNOWN; OUTSIDE.");
        StripDies x = withShapes(CELL, BLOCK, CHESS);
        dueAll("alone, the least", what -> x.alone(0, what), OUTSIDE, 1, 1, 1, 0);
        dueAll("alone, the block", what -> x.alone(1, what), OUTSIDE, 8, 8, 64, 0);
        dueAll("alone, chess goes into itself", what -> x.alone(2, what), OUTSIDE, 5, 8, 40, 8);
        dueRange("alone of shape", 0, 2, UNKNOWN, s -> x.alone(s, 0));
        x.rule(0, 3);
        x.rule(1, 3);
        x.rule(2, 4);
        dueAll("alone, the greatest", what -> x.alone(1, what), OUTSIDE, 11, 14, 154, 90);
        dueAll("alone, a cell with all", what -> x.alone(0, what), OUTSIDE, 4, 7, 28, 27);
        due("alone of none, outside", x.alone(3, 4), UNKNOWN);
    }

    private static void pitch7() {
        sentence(7, "PITCH is the least p (1 or more) for which all copies are APART");
        int[] gapped = {2, 3, 2, 3, 2, 4, 2};
        int[] webbed = {3, 4, 5, 6, 7, 4, 5};
        for (int d = 1; d < 8; d++) {
            StripDies x = withShapes(new int[] {1 | 1 << d});
            due("pitch of two cells " + d + " apart", x.alone(0, 0), gapped[d - 1]);
            x.rule(0, 1);
            due("pitch of two cells " + d + " apart, web 1", x.alone(0, 0), webbed[d - 1]);
        }
        for (int w = 0; w < 4; w++) {
            StripDies x = withShapes(CELL, TWO, BLOCK, new int[] {1, 0, 0, 0, 0x80}, new int[] {1, 2});
            x.rule(0, w);
            due("pitch of a cell, web " + w, x.alone(0, 0), w + 1);
            due("pitch of two, web " + w, x.alone(1, 0), w + 2);
            due("pitch of the block, web " + w, x.alone(2, 0), w + 8);
            // Four rows lie between the two cells, so that no web brings them near one another.
            due("pitch of two far rows, web " + w, x.alone(3, 0), w + 1);
            due("pitch of a step, web " + w, x.alone(4, 0), w == 0 ? 1 : w + 2);
        }
    }

    private static void strip7() {
        sentence(7, "STRIP: its height: the greatest y less the least y, and one, and 2 m");
        for (int m = 0; m < 4; m++) {
            StripDies x = withShapes(CELL, BLOCK, new int[] {1, 0, 0, 1});
            x.rule(0, 3 - m);
            x.rule(1, m);
            due("strip of a cell, margin " + m, x.alone(0, 1), 1 + 2 * m);
            due("strip of the block, margin " + m, x.alone(1, 1), 8 + 2 * m);
            due("strip of one with a gap, margin " + m, x.alone(2, 1), 4 + 2 * m);
            due("spent of the block, margin " + m, x.alone(1, 2), (11 - m) * (8 + 2 * m));
            due("waste of the block, margin " + m, x.alone(1, 3), (11 - m) * (8 + 2 * m) - 64);
        }
    }

    private static void ranges8() {
        sentence(8, "UNKNOWN; OUTSIDE: t, dx, dy, what");
        StripDies x = withShapes(CELL, BLOCK, TWO);
        dueRange("pair, a", 0, 2, UNKNOWN, a -> x.pair(a, 0, 0, 8, 0, 0));
        dueRange("pair, b", 0, 2, UNKNOWN, b -> x.pair(0, b, 0, 8, 0, 0));
        dueRange("pair, t", 0, 7, OUTSIDE, t -> x.pair(0, 0, t, 8, 0, 0));
        dueRange("pair, dx", 0, 31, OUTSIDE, dx -> x.pair(0, 0, 0, dx, 0, 0));
        dueRange("pair, dy", -8, 8, OUTSIDE, dy -> x.pair(0, 0, 0, 0, dy, 0));
        dueAll("pair", what -> x.pair(0, 2, 0, 1, 0, what), OUTSIDE, 3, 1, 3, 0);
        dueRange("pair that is not apart, t", 0, 7, OUTSIDE, t -> x.pair(1, 1, t, 0, 0, 0));
        dueAll("pair that is not apart", what -> x.pair(1, 1, 0, 0, 0, what), OUTSIDE, STATE, STATE, STATE, STATE);
        due("pair of none", new StripDies().pair(0, 0, 0, 8, 0, 0), UNKNOWN);
    }

    private static void apart8() {
        sentence(8, "APART, if for no cell of the one and no cell of the other both the differences of x and of y are w at most");
        StripDies lowered = withShapes(CELL);
        for (int w = 3; w >= 0; w--) {
            lowered.rule(0, w);
            for (int far = 1; far < 5; far++) {
                int want = far <= w ? 1 : 0;
                due("web down to " + w + ", over it by " + far, lowered.pair(0, 0, 0, 0, far, 0) == STATE ? 1 : 0, want);
                due("web down to " + w + ", under it by " + far, lowered.pair(0, 0, 0, 0, -far, 0) == STATE ? 1 : 0, want);
                due("web down to " + w + ", beside it by " + far, lowered.pair(0, 0, 0, far, 0, 0) == STATE ? 1 : 0, want);
            }
        }
        for (int w = 0; w < 4; w++) {
            StripDies x = withShapes(CELL, BLOCK);
            x.rule(0, w);
            for (int dx = 0; dx < 6; dx++) {
                for (int dy = -5; dy < 6; dy++) {
                    boolean isNear = dx <= w && Math.abs(dy) <= w;
                    due("whether web " + w + " refuses " + dx + ", " + dy, x.pair(0, 0, 0, dx, dy, 0) == STATE ? 1 : 0, isNear ? 1 : 0);
                }
            }
            for (int dx = 0; dx < 13; dx++) {
                due("whether web " + w + " refuses the block at " + dx, x.pair(1, 1, 0, dx, 0, 0) == STATE ? 1 : 0, dx < 8 + w ? 1 : 0);
            }
            due("the block over the block, web " + w, x.pair(1, 1, 0, 0, 8, 0), w == 0 ? 8 : STATE);
            due("the block under the block, web " + w, x.pair(1, 1, 0, 0, -8, 0), w == 0 ? 8 : STATE);
            due("a cell over the block, web " + w, x.pair(1, 0, 0, 7, 8, 0), w == 0 ? 8 : STATE);
            due("a cell beside the block, web " + w, x.pair(1, 0, 0, 8 + w, 7, 0), 9 + 2 * w);
            due("a cell too near beside the block, web " + w, x.pair(1, 0, 0, 7 + w, 7, 0), STATE);
        }
    }

    private static void pitch8() {
        sentence(8, "PITCH is the least p for which all copies of both are APART from one another");
        StripDies x = withShapes(CELL, BLOCK, TWO, new int[] {0x81});
        int[] cells = {0, 2, 3, 2, 3, 2, 4, 2, 3, 2, 3, 2, 5, 2, 3, 2, 3, 2, 4, 2, 3, 2, 3, 2, 5, 2, 3, 2, 3, 2, 4, 2};
        for (int dx = 1; dx < 32; dx++) {
            due("pitch of two cells, dx " + dx, x.pair(0, 0, 0, dx, 0, 0), cells[dx]);
            due("pitch of two cells in unlike rows, dx " + dx, x.pair(0, 0, 0, dx, 1, 0), 1);
        }
        due("two and a cell: clashes at 12 and 13", x.pair(2, 0, 0, 13, 0, 0), 5);
        due("a cell and two: clashes at 13 and 14", x.pair(0, 2, 0, 13, 0, 0), 3);
        due("b goes between the ends of a", x.pair(3, 2, 0, 1, 0, 0), 4);
        due("blocks side by side", x.pair(1, 1, 0, 8, 0, 0), 16);
        due("blocks at 31", x.pair(1, 1, 0, 31, 0, 0), 20);
        x.rule(0, 3);
        due("blocks at 11, the widest web", x.pair(1, 1, 0, 11, 0, 0), 22);
        due("blocks at 30, the widest web", x.pair(1, 1, 0, 30, 0, 0), 41);
        due("blocks at 31, the widest web: the greatest pitch", x.pair(1, 1, 0, 31, 0, 0), 42);
        due("a block and a cell at 31, the widest web", x.pair(1, 0, 0, 31, 0, 0), 18);
        due("a cell and a block at 31, the widest web", x.pair(0, 1, 0, 31, 0, 0), 21);
    }

    private static void strip8() {
        sentence(8, "STRIP: its height: the greatest y less the least y, and one, and 2 m");
        for (int m = 0; m < 4; m++) {
            StripDies x = withShapes(CELL, BLOCK, new int[] {1, 1, 1});
            x.rule(1, m);
            for (int dy = -8; dy <= 8; dy++) {
                due("strip of two cells, dy " + dy, x.pair(0, 0, 0, 1, dy, 1), Math.abs(dy) + 1 + 2 * m);
                due("strip of two blocks, dy " + dy, x.pair(1, 1, 0, 8, dy, 1), Math.abs(dy) + 8 + 2 * m);
            }
            int[] withThree = {16, 15, 14, 13, 12, 11, 10, 9, 8, 8, 8, 8, 8, 8, 9, 10, 11};
            for (int dy = -8; dy <= 8; dy++) {
                due("strip of the block and three, dy " + dy, x.pair(1, 2, 0, 8, dy, 1), withThree[dy + 8] + 2 * m);
            }
            due("strip of three lying, over the block", x.pair(1, 2, 1, 0, 8, 1), 9 + 2 * m);
        }
    }

    private static void waste8() {
        sentence(8, "SPENT of a LAYING: PITCH times STRIP, for one or two. WASTE: SPENT less the cells of what is laid.");
        StripDies x = withShapes(CELL, BLOCK, TWO);
        dueAll("pair, the least", what -> x.pair(0, 0, 0, 1, 0, what), OUTSIDE, 2, 1, 2, 0);
        dueAll("pair of blocks, without waste", what -> x.pair(1, 1, 0, 8, 0, what), OUTSIDE, 16, 8, 128, 0);
        dueAll("pair of unlike ones", what -> x.pair(2, 0, 0, 0, -8, what), OUTSIDE, 2, 9, 18, 15);
        x.rule(0, 3);
        x.rule(1, 3);
        dueAll("pair, the greatest", what -> x.pair(1, 1, 0, 31, 8, what), OUTSIDE, 42, 22, 924, 796);
        dueAll("pair, the greatest, under", what -> x.pair(1, 1, 0, 31, -8, what), OUTSIDE, 42, 22, 924, 796);
    }

    private static void ranges9() {
        sentence(9, "THE BEST PAIR: 0 t, 1 dx, 2 dy, 3 SPENT. UNKNOWN; OUTSIDE.");
        StripDies x = withShapes(CELL, BLOCK, TWO);
        dueAll("best, the least", what -> x.best(0, 0, what), OUTSIDE, 0, 0, -1, 2);
        dueRange("best, a", 0, 2, UNKNOWN, a -> x.best(a, 0, 3));
        dueRange("best, b", 0, 2, UNKNOWN, b -> x.best(0, b, 3));
        due("best of none, outside", x.best(3, 0, 4), UNKNOWN);
        due("best with none, outside", x.best(0, 3, 4), UNKNOWN);
        StripDies full = withShapes(CELL);
        for (int s = 1; s < 12; s++) {
            full.turn(0, 0);
        }
        shapeOf(full, 7);
        dueRange("best of twelve, a", 0, 11, UNKNOWN, a -> full.best(a, 11, 3));
        dueRange("best of twelve, b", 0, 11, UNKNOWN, b -> full.best(11, b, 3));
    }

    private static void dueBest(int web, int margin, int[] a, int[] b, long... answers) {
        StripDies x = withShapes(a, b);
        x.rule(0, web);
        x.rule(1, margin);
        dueAll("best", what -> x.best(0, 1, what), OUTSIDE, answers);
        due("the same by pair()", x.pair(0, 1, (int) answers[0], (int) answers[1], (int) answers[2], 2), answers[3]);
    }

    private static void turns9() {
        sentence(9, "of all t .. that are APART, the one of the least SPENT");
        dueBest(0, 1, new int[] {1}, new int[] {3}, 1, 0, -2, 5);
        dueBest(0, 1, new int[] {3, 2}, new int[] {3, 4}, 2, 0, 1, 10);
        dueBest(0, 2, new int[] {1, 0, 1, 1}, new int[] {41}, 3, 0, -1, 10);
        dueBest(2, 0, new int[] {1, 0, 0, 2}, new int[] {2, 0, 0, 1}, 4, 3, 0, 24);
        dueBest(3, 2, new int[] {4, 0, 0, 1, 0, 0, 2}, new int[] {128, 1}, 5, 5, -1, 108);
        dueBest(3, 0, new int[] {2, 1, 0, 0, 0, 2}, new int[] {3, 0, 1}, 6, 5, 3, 54);
        dueBest(0, 2, new int[] {4, 5}, new int[] {1, 2, 0, 0, 1}, 7, 0, 0, 18);
    }

    private static void shifts9() {
        sentence(9, "of all .. dx (0 .. 15), dy (-8 .. 8)");
        // No best one lies beyond dx 11: two shapes are clear of one another there, and a lesser pitch does for them.
        dueBest(3, 3, BLOCK, BLOCK, 0, 11, 0, 308);
        dueBest(3, 0, new int[] {0x81}, new int[] {1}, 0, 11, 0, 15);
        dueBest(0, 0, BLOCK, BLOCK, 0, 0, -8, 128);
        dueBest(3, 2, new int[] {1}, new int[] {17}, 1, 0, -8, 52);
        dueBest(2, 2, new int[] {1, 0, 0, 1, 0, 1}, new int[] {1, 0, 0, 0, 0, 0, 0, 1}, 0, 0, 8, 60);
        int[] seven = {1, 1, 1, 1, 1, 1, 1}, eight = {1, 1, 1, 1, 1, 1, 1, 1};
        dueBest(1, 0, seven, eight, 0, 0, 8, 32);
        dueBest(1, 0, eight, seven, 0, 0, -8, 32);
        dueBest(1, 3, eight, eight, 0, 2, 0, 56);
    }

    private static void twelve9() {
        sentence(9, "THE BEST PAIR of a and b");
        int[][] all = {{1}, {3}, {7}, {15}, {1, 1}, {1, 1, 1}, {3, 1}, {3, 3}, {7, 1}, {1, 2}, {5}, {255}};
        StripDies x = withShapes(all);
        for (int a = 0; a < 12; a++) {
            for (int b = 0; b < 12; b++) {
                StripDies two = withShapes(all[a], all[b]);
                due("t of " + a + ", " + b, x.best(a, b, 0), two.best(0, 1, 0));
                due("dx of " + a + ", " + b, x.best(a, b, 1), two.best(0, 1, 1));
                due("spent by " + a + ", " + b, x.best(a, b, 3), two.best(0, 1, 3));
            }
        }
    }

    private static void ties9() {
        sentence(9, "of several the first by t, then by dx, then by dy");
        dueBest(0, 0, CELL, CELL, 0, 0, -1, 2);
        dueBest(1, 0, CELL, CELL, 0, 2, 0, 4);
        dueBest(0, 0, TWO, TWO, 0, 0, -1, 4);
        // 21 is spent with t 1, dx 0, dy -4, too: t comes ahead of dx and of dy.
        dueBest(2, 1, CELL, TWO, 0, 3, 0, 21);
        // 12 is spent with dx 2, dy -1, too: dx comes ahead of dy.
        dueBest(1, 0, new int[] {1, 4}, CELL, 0, 0, 2, 12);
    }

    private static void rules9() {
        sentence(9, "THE BEST PAIR .. the one of the least SPENT");
        StripDies x = withShapes(CELL, BLOCK);
        int[] blocks = {128, 18 * 8, 20 * 8, 22 * 8};
        for (int w = 0; w < 4; w++) {
            x.rule(0, w);
            due("spent of cells, web " + w, x.best(0, 0, 3), 2 * (w + 1));
            due("spent of blocks, web " + w, x.best(1, 1, 3), blocks[w]);
        }
        for (int m = 0; m < 4; m++) {
            x.rule(1, m);
            due("spent of blocks, margin " + m, x.best(1, 1, 3), 22 * (8 + 2 * m));
        }
        for (int g = 0; g < 5; g++) {
            x.rule(2, g);
            due("spent of blocks, wall " + g, x.best(1, 1, 3), 308);
        }
        x.rule(0, 0);
        due("spent of blocks, no web any more: one over the other", x.best(1, 1, 3), 8 * 22);
    }
}
