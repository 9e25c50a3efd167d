/** The thirty promises one by one: ordinary inputs, the edges that the document names, and wrong inputs. */
public final class PromisesTest {
    private static final int UNKNOWN = -1, OUTSIDE = -2, STATE = -3, FULL = -4;
    private static final int NULL = -11, CAST = -12, INDEX = -13, SIZE = -14;
    private static final long LOST = Long.MIN_VALUE;
    private static final int LEAST = Integer.MIN_VALUE, MOST = Integer.MAX_VALUE;
    private static int wrong = 0;
    private static int promise = 0;

    public static void main(String[] args) {
        newObject();
        shape();
        shapeRefusals();
        turn();
        about();
        has();
        rule();
        alone();
        pair();
        pairRefusals();
        best();
        punch();
        ahead();
        free();
        must();
        together();
        stations();
        station();
        force();
        peak();
        punched();
        slit();
        sheet();
        lose();
        put();
        at();
        tell();
        keep();
        as();
        trace();
        fault();
        told();
        System.out.println(wrong == 0 ? "all promises hold" : wrong + " answers are not as promised");
        if (wrong != 0) {
            System.exit(1);
        }
    }

    private static void due(String what, long got, long want) {
        if (got != want) {
            wrong++;
            System.out.println("promise " + promise + ": " + what + " answered " + got + ", due is " + want);
        }
    }

    /** A shape of these rows, by way of the last sheet. */
    private static int shapeOf(StripDies x, int... rows) {
        x.sheet(3, 2, 8);
        for (int y = 0; y < rows.length; y++) {
            x.put(3, y, rows[y]);
        }
        return x.shape(3, 2, 0);
    }

    private static void dueRows(String what, StripDies x, int s, int... rows) {
        for (int y = 0; y < 8; y++) {
            int row = 0;
            for (int bit = 0; bit < 8; bit++) {
                row |= x.has(s, bit, y) << bit;
            }
            due(what + ", row " + y, row, y < rows.length ? rows[y] : 0);
        }
    }

    /** Punches of one cell each, at y 0. */
    private static StripDies cellsAt(int... places) {
        StripDies x = new StripDies();
        int cell = shapeOf(x, 1);
        for (int place : places) {
            x.punch(0, cell, place, 0, 1);
        }
        return x;
    }

    private static void duePlan(String what, StripDies x, int count, int... row) {
        due(what + ", stations", x.stations(), count);
        for (int p = 0; p < row.length; p++) {
            due(what + ", station of " + p, x.station(p), row[p]);
        }
    }

    private static void newObject() {
        promise = 1;
        StripDies x = new StripDies();
        for (int what = 0; what < 6; what++) {
            due("told " + what, x.told(what), 0);
        }
        for (int k = 0; k < 4; k++) {
            due("nothing to lose", x.lose(k), 0);
            due("nothing to read", x.at(k, 0, 0), LOST);
            due("that is NULL", x.fault(), 1);
        }
        due("no shape", x.about(0, 0), UNKNOWN);
        due("no punch", x.punched(0, 0), UNKNOWN);
        due("no station", x.stations(), 0);
        due("no trace", x.trace(), 0);
        due("no fault", new StripDies().fault(), 0);
    }

    private static void shape() {
        promise = 2;
        StripDies x = new StripDies();
        x.sheet(0, 0, 8);
        x.put(0, 7, -1);
        due("of bytes", x.shape(0, 0, 0), 0);
        dueRows("a byte below 0 has all bits", x, 0, 255);
        x.sheet(1, 1, 64);
        x.put(1, 57, 0x7F00 | 0b1000);
        x.put(1, 59, 0b100);
        due("of shorts, from further on", x.shape(1, 1, 56), 1);
        dueRows("shifted to the corner, lowest bits alone", x, 1, 2, 0, 1);
        x.sheet(2, 2, 10);
        x.put(2, 1, 255);
        x.put(2, 2, 0x40);
        x.put(2, 9, 0x80);
        due("of ints", x.shape(2, 2, 2), 2);
        dueRows("cells ahead of i do not count", x, 2, 1, 0, 0, 0, 0, 0, 0, 2);
        due("the last cell counts", x.about(2, 2), 8);
        due("the first one alone", x.shape(2, 2, 0), 3);
        dueRows("cells behind i + 7 do not count", x, 3, 255, 64);
        dueRows("shifted by 7 both ways", x, shapeOf(x, 0, 0, 0, 0, 0, 0, 0, 128), 1);
        dueRows("shifted by 5", x, shapeOf(x, 0, 0xA0, 0x40), 5, 2);
    }

    private static void shapeRefusals() {
        StripDies x = new StripDies();
        x.shape(0, 0, 0);
        due("UNKNOWN comes first", x.shape(4, 3, -1), UNKNOWN);
        due("and is no fault", x.fault(), 0);
        due("below 0", x.shape(-1, 0, 0), UNKNOWN);
        due("lane comes ahead of faults", x.shape(0, 3, -1), OUTSIDE);
        due("lane below 0", x.shape(0, -1, 0), OUTSIDE);
        due("nothing is no CAST, NULL comes ahead of INDEX", x.shape(0, 2, -1), NULL);
        due("its fault", x.fault(), 1);
        x.sheet(0, 1, 7);
        due("CAST comes ahead of INDEX", x.shape(0, 0, 0), CAST);
        due("its fault", x.fault(), 2);
        due("seven are not eight", x.shape(0, 1, 0), INDEX);
        due("its fault", x.fault(), 3);
        x.sheet(0, 1, 9);
        for (int i : new int[] {-1, 2, LEAST, MOST, MOST - 7}) {
            due("not all there from " + i, x.shape(0, 1, i), INDEX);
        }
        x.put(0, 3, 0x100);
        due("it is empty", x.shape(0, 1, 1), OUTSIDE);
        due("that is no fault", x.fault(), 0);
        due("none has come", x.told(0), 0);
        x.put(0, 0, 1);
        for (int s = 0; s < 12; s++) {
            due("twelve fit", x.shape(0, 1, 0), s);
        }
        due("one more does not", x.shape(0, 1, 0), FULL);
        due("empty comes ahead of FULL", x.shape(0, 1, 1), OUTSIDE);
        due("faults come ahead of FULL", x.shape(0, 1, 2), INDEX);
        due("twelve they are", x.told(0), 12);
    }

    private static void turn() {
        promise = 3;
        StripDies x = new StripDies();
        int s = shapeOf(x, 7, 1);
        int[][] turns = {{7, 1}, {3, 2, 2}, {4, 7}, {1, 1, 3}, {7, 4}, {2, 2, 3}, {1, 7}, {3, 1, 1}};
        for (int t = 0; t < 8; t++) {
            due("turn " + t, x.turn(s, t), t + 1);
            dueRows("turn " + t, x, t + 1, turns[t]);
        }
        dueRows("the first stays", x, s, 7, 1);
        turnOfOthers();
        due("UNKNOWN comes first", x.turn(9, 8), UNKNOWN);
        due("below 0", x.turn(-1, 0), UNKNOWN);
        due("turn below 0", x.turn(0, -1), OUTSIDE);
        due("turn above 7", x.turn(0, 8), OUTSIDE);
        due("of a turned one", x.turn(2, 3), 9);
        dueRows("all the way round", x, 9, 7, 1);
        x.turn(0, 0);
        due("the twelfth", x.turn(0, 0), 11);
        due("OUTSIDE comes ahead of FULL", x.turn(0, 8), OUTSIDE);
        due("full", x.turn(0, 0), FULL);
    }

    private static void turnOfOthers() {
        StripDies x = new StripDies();
        int corner = shapeOf(x, 1, 0, 0, 0, 0, 0, 0, 3), steps = shapeOf(x, 1, 2, 4);
        dueRows("eight high, turned", x, x.turn(corner, 1), 0x81, 1);
        dueRows("eight high, turned back", x, x.turn(corner, 3), 0x80, 0x81);
        dueRows("eight high, turned over and once", x, x.turn(corner, 5), 1, 0x81);
        dueRows("steps turned over", x, x.turn(steps, 4), 4, 2, 1);
    }

    private static void dueAbout(StripDies x, int s, int... all) {
        for (int what = 0; what < all.length; what++) {
            due("about(" + s + ", " + what + ")", x.about(s, what), all[what]);
        }
    }

    private static void about() {
        promise = 4;
        StripDies x = new StripDies();
        dueAbout(x, shapeOf(x, 1), 1, 1, 1, 4, 1);
        dueAbout(x, shapeOf(x, 7, 5, 7), 8, 3, 3, 16, 1);
        dueAbout(x, shapeOf(x, 1, 2), 2, 2, 2, 8, 2);
        dueAbout(x, shapeOf(x, 0x80, 0x01), 2, 8, 2, 8, 2);
        dueAbout(x, shapeOf(x, 255, 255, 255, 255, 255, 255, 255, 255), 64, 8, 8, 32, 1);
        dueAbout(x, shapeOf(x, 0xAA, 0x55, 0xAA, 0x55, 0xAA, 0x55, 0xAA, 0x55), 32, 8, 8, 128, 32);
        dueAbout(x, shapeOf(x, 0xFF, 0x80, 0xBF, 0xA1, 0xAD, 0xA5, 0xBD, 0x81), 36, 8, 8, 76, 2);
        dueAbout(x, shapeOf(x, 5, 5, 7), 7, 3, 3, 16, 1);
        due("what below 0", x.about(0, -1), OUTSIDE);
        due("what above 4", x.about(0, 5), OUTSIDE);
        due("UNKNOWN comes first", x.about(8, 5), UNKNOWN);
        due("below 0", x.about(-1, 0), UNKNOWN);
        for (int s = 8; s < 12; s++) {
            x.turn(0, 0);
        }
        for (int s : new int[] {12, 13, LEAST, MOST}) {
            due("none beyond the twelfth", x.about(s, 0), UNKNOWN);
        }
    }

    private static void has() {
        promise = 5;
        StripDies x = new StripDies();
        int s = shapeOf(x, 1, 0, 0, 0, 0, 0, 0, 0x80);
        due("the first corner", x.has(s, 0, 0), 1);
        due("the last corner", x.has(s, 7, 7), 1);
        due("none", x.has(s, 7, 0), 0);
        due("none", x.has(s, 0, 7), 0);
        due("x below 0", x.has(s, -1, 0), OUTSIDE);
        due("x above 7", x.has(s, 8, 0), OUTSIDE);
        due("y below 0", x.has(s, 0, -1), OUTSIDE);
        due("y above 7", x.has(s, 0, 8), OUTSIDE);
        due("UNKNOWN comes first", x.has(1, 8, 8), UNKNOWN);
        due("below 0", x.has(-1, 0, 0), UNKNOWN);
    }

    private static void rule() {
        promise = 6;
        StripDies x = new StripDies();
        int[] most = {3, 3, 4};
        for (int what = 0; what < 3; what++) {
            due("at first", x.rule(what, most[what]), 0);
            due("too much", x.rule(what, most[what] + 1), OUTSIDE);
            due("below 0", x.rule(what, -1), OUTSIDE);
            due("was the most", x.rule(what, 1), most[what]);
            due("was 1", x.rule(what, 1), 1);
            due("told", x.told(3 + what), 1);
            due("was 1 again", x.rule(what, 0), 1);
        }
        due("UNKNOWN comes first", x.rule(3, 9), UNKNOWN);
        due("what below 0", x.rule(-1, 0), UNKNOWN);
    }

    private static void dueAlone(String what, StripDies x, int s, int... all) {
        for (int i = 0; i < 4; i++) {
            due(what + ", alone " + i, x.alone(s, i), all[i]);
        }
    }

    private static void alone() {
        promise = 7;
        StripDies x = new StripDies();
        int cell = shapeOf(x, 1), ends = shapeOf(x, 0b10001), stairs = shapeOf(x, 0b0011, 0b0110, 0b1100);
        int block = shapeOf(x, 255, 255, 255, 255, 255, 255, 255, 255);
        dueAlone("a cell", x, cell, 1, 1, 1, 0);
        dueAlone("copies between the ends, but no multiple on them", x, ends, 3, 1, 3, 1);
        dueAlone("stairs go into one another", x, stairs, 2, 3, 6, 0);
        dueAlone("a block", x, block, 8, 8, 64, 0);
        x.rule(0, 1);
        dueAlone("ends with a web", x, ends, 6, 1, 6, 4);
        dueAlone("stairs with a web, on their corners too", x, stairs, 4, 3, 12, 6);
        x.rule(0, 3);
        x.rule(1, 3);
        x.rule(2, 4);
        dueAlone("a block with all", x, block, 11, 14, 154, 90);
        dueAlone("a cell with all", x, cell, 4, 7, 28, 27);
        due("what below 0", x.alone(0, -1), OUTSIDE);
        due("what above 3", x.alone(0, 4), OUTSIDE);
        due("UNKNOWN comes first", x.alone(4, 4), UNKNOWN);
        due("below 0", x.alone(-1, 0), UNKNOWN);
    }

    private static void duePair(String what, StripDies x, int[] laid, int... all) {
        for (int i = 0; i < 4; i++) {
            due(what + ", pair " + i, x.pair(laid[0], laid[1], laid[2], laid[3], laid[4], i), all[i]);
        }
    }

    private static void pair() {
        promise = 8;
        StripDies x = new StripDies();
        int cell = shapeOf(x, 1), hook = shapeOf(x, 7, 1), two = shapeOf(x, 3);
        duePair("apart by 12, so 5 is the least that does not divide it", x, new int[] {cell, cell, 0, 12, 0}, 5, 1, 5, 3);
        duePair("apart by 31", x, new int[] {cell, cell, 0, 31, 0}, 2, 1, 2, 0);
        duePair("over it", x, new int[] {cell, cell, 0, 0, 8}, 1, 9, 9, 7);
        duePair("under it", x, new int[] {cell, cell, 0, 0, -8}, 1, 9, 9, 7);
        duePair("two hooks make a block", x, new int[] {hook, hook, 2, 1, 0}, 4, 2, 8, 0);
        duePair("two hooks, one turned over", x, new int[] {hook, hook, 4, 0, -2}, 3, 4, 12, 4);
        duePair("b is the one that is turned", x, new int[] {cell, two, 1, 1, 0}, 2, 2, 4, 1);
        duePair("a is not", x, new int[] {two, cell, 1, 2, 0}, 3, 1, 3, 0);
        duePair("the pitch of b counts", x, new int[] {cell, two, 0, 0, 3}, 2, 4, 8, 5);
        duePair("the pitch of a counts", x, new int[] {two, cell, 0, 0, 3}, 2, 4, 8, 5);
        duePair("b behind the next a", x, new int[] {two, cell, 0, 5, 0}, 3, 1, 3, 0);
        x.rule(0, 1);
        x.rule(1, 2);
        duePair("a web", x, new int[] {cell, cell, 0, 2, 0}, 4, 5, 20, 18);
        duePair("a web, over it", x, new int[] {cell, cell, 0, 1, 2}, 2, 7, 14, 12);
        due("too near at the corner", x.pair(cell, cell, 0, 1, 1, 0), STATE);
        x.rule(0, 3);
        duePair("the widest web and shift", x, new int[] {hook, hook, 0, 31, 0}, 19, 6, 114, 106);
        due("too near by the web", x.pair(cell, cell, 0, 3, -3, 0), STATE);
        duePair("just apart", x, new int[] {cell, cell, 0, 3, -4}, 4, 9, 36, 34);
    }

    private static void pairRefusals() {
        StripDies x = new StripDies();
        int cell = shapeOf(x, 1);
        for (int what = 0; what < 4; what++) {
            due("not apart", x.pair(cell, cell, 7, 0, 0, what), STATE);
        }
        due("no a, UNKNOWN comes first", x.pair(1, 0, 8, 32, 9, 4), UNKNOWN);
        due("no b", x.pair(0, 1, 0, 1, 0, 0), UNKNOWN);
        due("below 0", x.pair(0, -1, 0, 1, 0, 0), UNKNOWN);
        int[][] outside = {{-1, 1, 0, 0}, {8, 1, 0, 0}, {0, -1, 0, 0}, {0, 32, 0, 0}, {0, 1, -9, 0}, {0, 1, 9, 0}, {0, 1, 0, -1}, {0, 0, 0, 4}};
        for (int[] one : outside) {
            due("outside", x.pair(0, 0, one[0], one[1], one[2], one[3]), OUTSIDE);
        }
    }

    private static void dueBest(String what, StripDies x, int a, int b, int... all) {
        for (int i = 0; i < 4; i++) {
            due(what + ", best " + i, x.best(a, b, i), all[i]);
        }
    }

    private static void best() {
        promise = 9;
        StripDies x = new StripDies();
        int cell = shapeOf(x, 1), hook = shapeOf(x, 7, 1), block = shapeOf(x, 255, 255, 255, 255, 255, 255, 255, 255);
        dueBest("cells: the first of many by dx, then dy", x, cell, cell, 0, 0, -1, 2);
        dueBest("hooks make a block", x, hook, hook, 2, 1, 0, 8);
        dueBest("a block and itself", x, block, block, 0, 0, -8, 128);
        int three = shapeOf(x, 7);
        dueBest("a cell and three", x, cell, three, 0, 1, 0, 4);
        dueBest("three and a cell", x, three, cell, 0, 3, 0, 4);
        x.rule(1, 1);
        dueBest("cells with a margin", x, cell, cell, 0, 0, -1, 4);
        x.rule(1, 0);
        x.rule(0, 1);
        dueBest("cells with a web", x, cell, cell, 0, 2, 0, 4);
        x.rule(0, 3);
        x.rule(1, 3);
        dueBest("blocks with all, none below one another", x, block, block, 0, 11, 0, 308);
        bestOfColumns();
        due("what below 0", x.best(0, 0, -1), OUTSIDE);
        due("what above 3", x.best(0, 0, 4), OUTSIDE);
        due("no a, UNKNOWN comes first", x.best(4, 0, 4), UNKNOWN);
        due("no b", x.best(0, 4, 0), UNKNOWN);
        due("below 0", x.best(-1, 0, 0), UNKNOWN);
    }

    private static void bestOfColumns() {
        StripDies x = new StripDies();
        int seven = shapeOf(x, 1, 1, 1, 1, 1, 1, 1), eight = shapeOf(x, 1, 1, 1, 1, 1, 1, 1, 1);
        dueBest("columns", x, seven, eight, 0, 0, -8, 15);
        x.rule(0, 1);
        dueBest("a web: only over it there is room", x, seven, eight, 0, 0, 8, 32);
        dueBest("a web: only under it there is room", x, eight, seven, 0, 0, -8, 32);
        x.rule(1, 3);
        dueBest("no room over it, though it would spend 46", x, eight, eight, 0, 2, 0, 56);
    }

    private static void punch() {
        promise = 10;
        StripDies x = new StripDies();
        due("no shape, UNKNOWN comes first", x.punch(3, 0, 61, 21, 21), UNKNOWN);
        int cell = shapeOf(x, 1);
        due("no shape below 0", x.punch(0, -1, 0, 0, 1), UNKNOWN);
        int[][] outside = {{-1, 0, 0, 1}, {3, 0, 0, 1}, {0, -1, 0, 1}, {0, 61, 0, 1}, {0, 0, -1, 1}, {0, 0, 21, 1}, {0, 0, 0, 0}, {0, 0, 0, 21}};
        for (int[] one : outside) {
            due("outside", x.punch(one[0], cell, one[1], one[2], one[3]), OUTSIDE);
        }
        due("none has come", x.told(1), 0);
        due("the least", x.punch(0, cell, 0, 0, 1), 0);
        due("the most", x.punch(2, cell, 60, 20, 20), 1);
        for (int p = 2; p < 10; p++) {
            due("ten fit", x.punch(1, cell, p, p, p), p);
        }
        due("OUTSIDE comes ahead of FULL", x.punch(1, cell, 61, 0, 1), OUTSIDE);
        due("one more does not", x.punch(1, cell, 0, 0, 1), FULL);
        due("ten they are", x.told(1), 10);
    }

    private static void ahead() {
        promise = 11;
        StripDies x = cellsAt(0, 10, 20, 30);
        due("a law", x.ahead(0, 1), 1);
        due("it was", x.ahead(0, 1), 0);
        due("the next", x.ahead(1, 2), 1);
        due("not known yet, though it follows", x.ahead(0, 2), 1);
        due("not the other way round", x.ahead(1, 0), STATE);
        due("not round through others", x.ahead(2, 0), STATE);
        due("not of itself", x.ahead(3, 3), STATE);
        due("three laws", x.told(2), 3);
        due("no a", x.ahead(4, 0), UNKNOWN);
        due("no b", x.ahead(0, -1), UNKNOWN);
        due("none of both, though the same", x.ahead(9, 9), UNKNOWN);
    }

    private static void free() {
        promise = 12;
        StripDies x = cellsAt(0, 10, 20);
        x.ahead(0, 1);
        x.ahead(1, 2);
        due("none", x.free(0, 2), 0);
        due("none the other way round", x.free(1, 0), 0);
        due("none of itself", x.free(1, 1), 0);
        due("no more", x.free(0, 1), 1);
        due("it was none", x.free(0, 1), 0);
        due("one law is left", x.told(2), 1);
        due("now the other way round is fine", x.ahead(2, 0), 1);
        duePlan("and holds", x, 3, 2, 0, 1);
        due("no a", x.free(3, 0), UNKNOWN);
        due("no b", x.free(0, -1), UNKNOWN);
    }

    private static void must() {
        promise = 13;
        StripDies x = cellsAt(0, 10, 20, 30, 40, 50, 1, 11, 21, 31);
        for (int p = 9; p > 0; p--) {
            x.ahead(p, p - 1);
        }
        due("from one end to the other", x.must(9, 0), 1);
        due("not back", x.must(0, 9), 0);
        due("next to it", x.must(5, 4), 1);
        due("not of itself", x.must(5, 5), 0);
        x.free(5, 4);
        due("the chain is cut", x.must(9, 0), 0);
        due("ahead of the cut", x.must(9, 5), 1);
        due("behind the cut", x.must(4, 0), 1);
        StripDies up = cellsAt(0, 10, 20, 30, 40, 50, 1, 11, 21, 31);
        for (int p = 0; p < 9; p++) {
            up.ahead(p, p + 1);
        }
        due("upward", up.must(0, 9), 1);
        due("upward, not back", up.must(9, 0), 0);
        StripDies through = cellsAt(0, 10, 20);
        through.ahead(1, 0);
        through.ahead(0, 2);
        due("through the first", through.must(1, 2), 1);
        due("two laws", through.told(2), 2);
        due("no a", x.must(10, 0), UNKNOWN);
        due("no b", x.must(0, -1), UNKNOWN);
    }

    private static void together() {
        promise = 14;
        StripDies x = cellsAt(0, 0, 1, 4, 5, 60);
        due("one itself", x.together(0, 0), 1);
        due("in one place", x.together(0, 1), 0);
        due("beside it", x.together(0, 2), 1);
        x.rule(2, 4);
        due("too near", x.together(0, 3), 0);
        due("too near, the other way round", x.together(3, 0), 0);
        due("far enough", x.together(0, 4), 1);
        due("far off", x.together(5, 0), 1);
        x.rule(0, 3);
        x.rule(2, 0);
        due("the web does not count", x.together(0, 2), 1);
        x.ahead(0, 4);
        x.ahead(4, 5);
        due("one must be ahead", x.together(0, 5), 0);
        due("or behind", x.together(5, 0), 0);
        due("no a", x.together(6, 0), UNKNOWN);
        due("no b", x.together(0, -1), UNKNOWN);
        togetherInPlaces();
    }

    private static void togetherInPlaces() {
        StripDies tower = new StripDies();
        int cell = shapeOf(tower, 1);
        for (int y : new int[] {0, 4, 5, 20}) {
            tower.punch(0, cell, 0, y, 1);
        }
        tower.rule(2, 4);
        due("too near over it", tower.together(0, 1), 0);
        due("too near under it", tower.together(1, 0), 0);
        due("far enough over it", tower.together(0, 2), 1);
        due("far enough under it", tower.together(2, 0), 1);
        due("far off over it", tower.together(0, 3), 1);
        due("far off under it", tower.together(3, 0), 1);
        tower.rule(2, 3);
        due("no more too near", tower.together(1, 0), 1);
        StripDies y = new StripDies();
        int hook = shapeOf(y, 7, 1), block = shapeOf(y, 255, 255, 255, 255, 255, 255, 255, 255);
        y.punch(0, hook, 3, 4, 1);
        y.punch(0, hook, 4, 5, 1);
        y.punch(0, block, 10, 9, 1);
        due("shapes where they are", y.together(0, 1), 1);
        y.rule(2, 1);
        due("and their corners", y.together(0, 1), 0);
        y.rule(2, 3);
        due("across", y.together(1, 2), 1);
        y.rule(2, 4);
        due("across, too near", y.together(1, 2), 0);
    }

    private static void stations() {
        promise = 15;
        StripDies x = new StripDies();
        due("none without punches", x.stations(), 0);
        x.rule(2, 4);
        due("none still", x.stations(), 0);
        duePlan("one", cellsAt(7), 1, 0);
        StripDies path = cellsAt(0, 3, 1, 2);
        path.rule(2, 1);
        due("two do, though the first fit would take three", path.stations(), 2);
        StripDies heap = cellsAt(5, 5, 5, 5, 5, 5, 5, 5, 5, 5);
        due("ten in one place", heap.stations(), 10);
        StripDies later = cellsAt(0, 3);
        due("at first", later.stations(), 1);
        later.rule(2, 3);
        due("with a wall", later.stations(), 2);
        later.punch(0, 0, 1, 0, 1);
        due("with one more", later.stations(), 3);
        later.rule(2, 1);
        due("with a lesser wall", later.stations(), 2);
        StripDies chain = cellsAt(0, 10, 20, 30);
        chain.ahead(0, 1);
        chain.ahead(2, 3);
        due("two chains side by side", chain.stations(), 2);
        chain.ahead(1, 2);
        due("one chain", chain.stations(), 4);
        chain.free(0, 1);
        due("three and one", chain.stations(), 3);
        int more = chain.punch(0, 0, 0, 0, 1);
        due("one in the place of the first", chain.stations(), 3);
        chain.ahead(3, more);
        due("and behind the last", chain.stations(), 4);
    }

    private static void station() {
        promise = 16;
        StripDies path = cellsAt(0, 3, 1, 2);
        path.rule(2, 1);
        duePlan("the least row of two stations", path, 2, 0, 1, 1, 0);
        StripDies x = cellsAt(0, 10, 20, 30);
        x.ahead(3, 0);
        duePlan("behind the last", x, 2, 1, 0, 0, 0);
        x.ahead(0, 2);
        duePlan("early, not late", x, 3, 1, 0, 2, 0);
        StripDies heap = cellsAt(5, 5, 5, 5);
        heap.ahead(3, 1);
        duePlan("the first is first", heap, 4, 0, 2, 3, 1);
        heap.ahead(3, 0);
        duePlan("the first is next to it", heap, 4, 1, 2, 3, 0);
        due("no punch", heap.station(4), UNKNOWN);
        due("below 0", heap.station(-1), UNKNOWN);
    }

    private static StripDies stationsWithForces() {
        StripDies x = new StripDies();
        int cell = shapeOf(x, 1), row = shapeOf(x, 7), hook = shapeOf(x, 7, 1);
        x.punch(0, cell, 0, 0, 3);
        x.punch(1, row, 10, 5, 20);
        x.punch(2, hook, 60, 20, 7);
        x.punch(2, cell, 60, 20, 1);
        x.ahead(2, 3);
        return x;
    }

    private static void force() {
        promise = 17;
        StripDies x = stationsWithForces();
        due("the sum, a bend's half", x.force(0, 0), 12 + 160 + 35);
        due("x", x.force(0, 1), 12 * 1 + 160 * 23 + 35 * 123);
        due("y", x.force(0, 2), 12 * 1 + 160 * 11 + 35 * 42);
        due("punches", x.force(0, 3), 3);
        due("the other one", x.force(1, 0), 2);
        due("its x", x.force(1, 1), 2 * 121);
        due("its y", x.force(1, 2), 2 * 41);
        due("its punch", x.force(1, 3), 1);
        due("no station", x.force(2, 0), LOST);
        due("below 0", x.force(-1, 0), LOST);
        due("what below 0", x.force(0, -1), LOST);
        due("what above 3", x.force(0, 4), LOST);
        due("none at all", new StripDies().force(0, 0), LOST);
    }

    private static void peak() {
        promise = 18;
        StripDies x = new StripDies();
        int cell = shapeOf(x, 1);
        int[] thick = {2, 3, 2, 3, 2};
        for (int p = 0; p < thick.length; p++) {
            x.punch(0, cell, 10 * p, 0, thick[p]);
        }
        due("all at once", x.peak(0, 1), 48);
        due("the greatest first would make 28", x.peak(0, 2), 24);
        due("three steps", x.peak(0, 3), 20);
        due("four steps", x.peak(0, 4), 16);
        x.punch(2, cell, 50, 0, 19);
        due("one that is above all", x.peak(0, 3), 38);
        StripDies y = new StripDies();
        int hook = shapeOf(y, 7, 1);
        int[] parts = {8, 7, 6, 5, 4};
        for (int p = 0; p < parts.length; p++) {
            y.punch(2, hook, 10 * p, 0, parts[p]);
        }
        due("two even halves", y.peak(0, 2), 75);
        due("three steps of bends", y.peak(0, 3), 55);
        x.ahead(5, 0);
        due("alone in its station", x.peak(0, 4), 38);
        due("as many steps as it can use", x.peak(1, 4), 8);
        due("no step", x.peak(0, 0), OUTSIDE);
        due("too many steps", x.peak(0, 5), OUTSIDE);
        due("UNKNOWN comes first", x.peak(2, 0), UNKNOWN);
        due("below 0", x.peak(-1, 1), UNKNOWN);
    }

    private static void punched() {
        promise = 19;
        StripDies x = stationsWithForces();
        int[][] all = {{0, 0, 0, 0, 3, 12}, {1, 1, 10, 5, 20, 160}, {2, 2, 60, 20, 7, 35}, {2, 0, 60, 20, 1, 2}};
        for (int p = 0; p < 4; p++) {
            for (int what = 0; what < 6; what++) {
                due("punched(" + p + ", " + what + ")", x.punched(p, what), all[p][what]);
            }
        }
        due("what below 0", x.punched(0, -1), OUTSIDE);
        due("what above 5", x.punched(0, 6), OUTSIDE);
        due("UNKNOWN comes first", x.punched(4, 6), UNKNOWN);
        due("below 0", x.punched(-1, 0), UNKNOWN);
        StripDies all10 = cellsAt(0, 1, 2, 3, 4, 5, 6, 7, 8, 9);
        for (int p : new int[] {10, 11, LEAST, MOST}) {
            due("none beyond the tenth", all10.punched(p, 0), UNKNOWN);
        }
    }

    private static void dueSlit(int width, int w0, int w1, int w2, int... all) {
        StripDies x = new StripDies();
        for (int what = 0; what < 5; what++) {
            String text = "slit(" + width + ", " + w0 + ", " + w1 + ", " + w2 + ", " + what + ")";
            due(text, x.slit(width, w0, w1, w2, what), all[what]);
        }
    }

    private static void slit() {
        promise = 20;
        dueSlit(12, 3, 4, 0, 0, 3, 0, 3, 0);
        dueSlit(10, 4, 5, 6, 0, 2, 1, 0, 1);
        dueSlit(10, 5, 4, 6, 0, 2, 2, 0, 0);
        dueSlit(6, 0, 3, 3, 0, 2, 0, 2, 0);
        dueSlit(7, 3, 3, 3, 1, 2, 2, 0, 0);
        dueSlit(11, 7, 5, 0, 1, 2, 0, 2, 0);
        dueSlit(2000, 1, 1, 1, 0, 2000, 2000, 0, 0);
        dueSlit(2000, 0, 1, 0, 0, 2000, 0, 2000, 0);
        dueSlit(2000, 0, 0, 1, 0, 2000, 0, 0, 2000);
        dueSlit(1, 500, 2, 0, 1, 0, 0, 0, 0);
        dueSlit(2000, 500, 500, 499, 0, 4, 4, 0, 0);
        StripDies x = new StripDies();
        int[][] outside = {{0, 1, 1, 1, 0}, {2001, 1, 1, 1, 0}, {9, -1, 1, 1, 0}, {9, 501, 1, 1, 0}, {9, 1, -1, 1, 0}, {9, 1, 501, 1, 0},
            {9, 1, 1, -1, 0}, {9, 1, 1, 501, 0}, {9, 0, 0, 0, 0}, {9, 1, 1, 1, -1}, {9, 1, 1, 1, 5}, {LEAST, MOST, LEAST, MOST, LEAST}};
        for (int[] one : outside) {
            due("outside", x.slit(one[0], one[1], one[2], one[3], one[4]), OUTSIDE);
        }
    }

    private static void sheet() {
        promise = 21;
        StripDies x = new StripDies();
        due("a row", x.sheet(0, 2, 64), 1);
        x.put(0, 63, 7);
        due("UNKNOWN comes first", x.sheet(4, 3, 65), UNKNOWN);
        due("below 0", x.sheet(-1, 0, 0), UNKNOWN);
        due("lane comes ahead of SIZE", x.sheet(0, 3, -1), OUTSIDE);
        due("that is no fault", x.fault(), 0);
        due("lane below 0", x.sheet(0, -1, 1), OUTSIDE);
        due("too long", x.sheet(0, 0, 65), OUTSIDE);
        due("below 0", x.sheet(0, 0, -1), SIZE);
        due("its fault", x.fault(), 4);
        due("far below 0", x.sheet(0, 0, LEAST), SIZE);
        due("the row stays", x.at(0, 63, 2), 7);
        due("a new row", x.sheet(0, 2, 64), 1);
        due("has 0", x.at(0, 63, 2), 0);
        x.put(0, 0, 7);
        x.sheet(0, 2, 1);
        due("has 0 from the first on", x.at(0, 0, 2), 0);
        due("a row of none", x.sheet(0, 1, 0), 1);
        due("has no cell", x.put(0, 0, 1), INDEX);
        due("but is there", x.lose(0), 1);
        due("the others have nothing", x.lose(1), 0);
    }

    private static void lose() {
        promise = 22;
        StripDies x = new StripDies();
        x.sheet(3, 0, 1);
        due("it had a row", x.lose(3), 1);
        due("it had nothing", x.lose(3), 0);
        due("it has nothing", x.put(3, 0, 1), NULL);
        due("no such", x.lose(4), UNKNOWN);
        due("below 0", x.lose(-1), UNKNOWN);
        due("names no fault", x.fault(), 1);
    }

    private static void put() {
        promise = 23;
        StripDies x = new StripDies();
        due("nothing, ahead of INDEX", x.put(0, -1, 0), NULL);
        for (int lane = 0; lane < 3; lane++) {
            x.sheet(lane, lane, 2);
            due("put", x.put(lane, 1, 0x12348085), 1);
            due("cut to its lane", x.at(lane, 1, lane), lane == 0 ? (byte) 0x85 : lane == 1 ? (short) 0x8085 : 0x12348085);
            due("beside it", x.at(lane, 0, lane), 0);
            due("behind the last", x.put(lane, 2, 1), INDEX);
            due("its fault", x.fault(), 3);
            due("below 0", x.put(lane, -1, 1), INDEX);
            due("far off", x.put(lane, MOST, 1), INDEX);
            due("far below 0", x.put(lane, LEAST, 1), INDEX);
        }
        due("UNKNOWN comes first", x.put(4, -1, 1), UNKNOWN);
        due("that is no fault", x.fault(), 0);
        due("below 0", x.put(-1, 0, 1), UNKNOWN);
    }

    private static void dueLost(String what, StripDies x, int k, int i, int lane, int fault) {
        due(what, x.at(k, i, lane), LOST);
        due(what + ", its fault", x.fault(), fault);
    }

    private static void at() {
        promise = 24;
        StripDies x = new StripDies();
        x.sheet(1, 1, 3);
        x.put(1, 0, -1);
        x.put(1, 2, 32768);
        due("the first", x.at(1, 0, 1), -1);
        due("no fault", x.fault(), 0);
        due("the last", x.at(1, 2, 1), -32768);
        dueLost("nothing is no CAST, and comes ahead of INDEX", x, 0, -1, 2, 1);
        dueLost("UNKNOWN comes first", x, 4, 0, 3, 0);
        dueLost("CAST comes ahead of INDEX", x, 1, 3, 0, 2);
        dueLost("the lane comes ahead of faults", x, 1, 3, 3, 0);
        dueLost("an int is no short", x, 1, 0, 2, 2);
        dueLost("behind the last", x, 1, 3, 1, 3);
        dueLost("below 0", x, 1, -1, 1, 3);
        dueLost("lane below 0", x, 1, 0, -1, 0);
        dueLost("sheet below 0", x, -1, 0, 0, 0);
    }

    private static void tell() {
        promise = 25;
        StripDies x = stationsWithForces();
        due("a cut", x.tell(0), 1);
        due("leaves 1", x.trace(), 1);
        due("a pilot", x.tell(1), 103);
        due("leaves 2, 1", x.trace(), (1 * 31 + 2) * 31 + 1);
        StripDies y = stationsWithForces();
        due("a bend", y.tell(2), 108);
        due("leaves 3, 2, 1, 1", y.trace(), ((3 * 31 + 2) * 31 + 1) * 31 + 1);
        due("no punch", y.tell(4), UNKNOWN);
        due("below 0", y.tell(-1), UNKNOWN);
        due("leaves nothing", y.trace(), ((3 * 31 + 2) * 31 + 1) * 31 + 1);
    }

    private static void keep() {
        promise = 26;
        StripDies x = stationsWithForces();
        due("a cut", x.keep(0), 0);
        due("a pilot", x.keep(1), 2);
        due("leaves 4 each", x.trace(), 4 * 31 + 4);
        due("a bend has its own", x.keep(2), 50);
        due("leaves 5", x.trace(), (4 * 31 + 4) * 31 + 5);
        due("each bend the same", x.keep(3), 50);
        due("no punch", x.keep(4), UNKNOWN);
        due("below 0", x.keep(-1), UNKNOWN);
        due("leaves nothing", x.trace(), ((4 * 31 + 4) * 31 + 5) * 31 + 5);
    }

    private static void as() {
        promise = 27;
        StripDies x = stationsWithForces();
        int[][] all = {{1, CAST, CAST}, {1, 1, CAST}, {1, 1, 1}};
        for (int p = 0; p < 3; p++) {
            for (int kind = 0; kind < 3; kind++) {
                due("as(" + p + ", " + kind + ")", x.as(p, kind), all[p][kind]);
                due("its fault", x.fault(), all[p][kind] == CAST ? 2 : 0);
            }
        }
        x.as(0, 2);
        due("kind below 0", x.as(0, -1), OUTSIDE);
        due("that is no fault", x.fault(), 0);
        due("kind above 2", x.as(2, 3), OUTSIDE);
        x.as(0, 2);
        due("UNKNOWN comes first", x.as(4, 3), UNKNOWN);
        due("that is no fault", x.fault(), 0);
        due("below 0", x.as(-1, 0), UNKNOWN);
    }

    private static void trace() {
        promise = 28;
        StripDies x = stationsWithForces();
        due("at first", x.trace(), 0);
        int wraps = 0;
        for (int k = 0; k < 40; k++) {
            x.tell(1);
            wraps = (wraps * 31 + 2) * 31 + 1;
        }
        due("it wraps", x.trace(), wraps);
        x.as(1, 0);
        x.punched(1, 0);
        due("others leave nothing", x.trace(), wraps);
    }

    private static void fault() {
        promise = 29;
        StripDies x = new StripDies();
        due("ahead of any", x.fault(), 0);
        x.put(0, 0, 0);
        due("NULL", x.fault(), 1);
        due("asked again", x.fault(), 1);
        x.turn(0, 0);
        x.lose(9);
        x.rule(0, 9);
        x.told(9);
        x.slit(0, 0, 0, 0, 0);
        x.punch(9, 9, 9, 9, 9);
        x.force(0, 0);
        x.tell(0);
        due("calls that name none leave it", x.fault(), 1);
        x.sheet(0, 0, 8);
        due("a new row came to none", x.fault(), 0);
        x.at(0, 0, 1);
        due("CAST", x.fault(), 2);
        x.put(0, 0, 1);
        due("put came to none", x.fault(), 0);
        x.put(0, 8, 1);
        due("INDEX", x.fault(), 3);
        x.shape(0, 0, 0);
        due("a shape came to none", x.fault(), 0);
        x.sheet(0, 0, -5);
        due("SIZE", x.fault(), 4);
        x.at(0, 0, 0);
        due("at came to none", x.fault(), 0);
        x.punch(0, 0, 0, 0, 1);
        x.as(0, 1);
        due("CAST of a punch", x.fault(), 2);
        x.shape(9, 0, 0);
        due("a refused one", x.fault(), 0);
    }

    private static void told() {
        promise = 30;
        StripDies x = stationsWithForces();
        x.rule(0, 1);
        x.rule(1, 2);
        x.rule(2, 4);
        x.ahead(0, 1);
        int[] all = {3, 4, 2, 1, 2, 4};
        for (int what = 0; what < 6; what++) {
            due("told " + what, x.told(what), all[what]);
        }
        due("below 0", x.told(-1), OUTSIDE);
        due("above 5", x.told(6), OUTSIDE);
    }
}
