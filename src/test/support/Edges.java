import java.util.function.IntToLongFunction;

/** What the tests of the edges share: the sentence that is tested, the count of wrong answers, ways to make things. */
abstract class Edges {
    static final int UNKNOWN = -1, OUTSIDE = -2, STATE = -3, FULL = -4;
    static final int NULL = -11, CAST = -12, INDEX = -13, SIZE = -14;
    static final long LOST = Long.MIN_VALUE;
    static final int LEAST = Integer.MIN_VALUE, MOST = Integer.MAX_VALUE;
    static final int[] BLOCK = {255, 255, 255, 255, 255, 255, 255, 255};
    static final int[] CHESS = {0x55, 0xAA, 0x55, 0xAA, 0x55, 0xAA, 0x55, 0xAA};

    private static int wrong = 0;
    private static String tested = "";

    /** Names the sentence of the document that the next answers are due by. */
    static void sentence(int promise, String words) {
        tested = "promise " + promise + ", \"" + words + "\": ";
    }

    static void due(String call, long got, long want) {
        if (got != want) {
            wrong++;
            System.out.println(tested + call + " answered " + got + ", due is " + want);
        }
    }

    /** The ends of a range and what is next to them: let in from least to most, refused beside them and far away. */
    static void dueRange(String what, int least, int most, long refusal, IntToLongFunction call) {
        for (int v : new int[] {LEAST, least - 1, most + 1, MOST}) {
            due(what + " " + v, call.applyAsLong(v), refusal);
        }
        for (int v : new int[] {least, Math.min(least + 1, most), Math.max(most - 1, least), most}) {
            due("whether " + what + " " + v + " is refused", call.applyAsLong(v) == refusal ? 1 : 0, 0);
        }
    }

    /** Answers of one call for what 0, 1, 2 .., and its refusals beside these. */
    static void dueAll(String what, IntToLongFunction call, long refusal, long... answers) {
        for (int i = 0; i < answers.length; i++) {
            due(what + ", what " + i, call.applyAsLong(i), answers[i]);
        }
        for (int i : new int[] {LEAST, -1, answers.length, MOST}) {
            due(what + ", what " + i, call.applyAsLong(i), refusal);
        }
    }

    static void end() {
        System.out.println(wrong == 0 ? "all sentences hold at their edges" : wrong + " answers are not as due");
        if (wrong != 0) {
            System.exit(1);
        }
    }

    /** A shape of these rows, by way of the last sheet. */
    static int shapeOf(StripDies x, int... rows) {
        x.sheet(3, 2, 8);
        for (int y = 0; y < rows.length; y++) {
            x.put(3, y, rows[y]);
        }
        return x.shape(3, 2, 0);
    }

    static StripDies withShapes(int[]... all) {
        StripDies x = new StripDies();
        for (int[] rows : all) {
            shapeOf(x, rows);
        }
        return x;
    }

    /** An object whose shape 0 is one cell, and cuts of it of thickness 1 at these x, all at y 0. */
    static StripDies cutsAt(int... places) {
        StripDies x = withShapes(new int[] {1});
        for (int place : places) {
            x.punch(0, 0, place, 0, 1);
        }
        return x;
    }

    static void dueRows(String what, StripDies x, int s, int... rows) {
        for (int y = 0; y < 8; y++) {
            int row = 0;
            for (int bit = 0; bit < 8; bit++) {
                row |= x.has(s, bit, y) << bit;
            }
            due(what + ", row " + y, row, y < rows.length ? rows[y] : 0);
        }
    }
}
