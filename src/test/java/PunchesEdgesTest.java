/** Part 2 of the document, PUNCHES: promises 10 to 19, each sentence at its edges. */
public final class PunchesEdgesTest extends Edges {
    private static final int[] CELL = {1};
    private static final int[] TEN_APART = {0, 6, 12, 18, 24, 30, 36, 42, 48, 54};

    public static void main(String[] args) {
        ranges10();
        ten10();
        ranges11();
        itself11();
        again11();
        manyLaws11();
        free12();
        must13();
        ranges14();
        wall14();
        wallOfShapes14();
        laws14();
        none15();
        fewest15();
        most15();
        fresh15();
        ranges16();
        leastRow16();
        ranges17();
        sums17();
        ranges18();
        steps18();
        tenPunches18();
        ranges19();
        forces19();
        end();
    }

    /** Adds a cut of shape 0 and thickness 1. */
    private static int cutAt(StripDies x, int px, int py) {
        return x.punch(0, 0, px, py, 1);
    }

    private static void duePlan(String what, StripDies x, int count, int... row) {
        due(what + ", stations", x.stations(), count);
        for (int p = 0; p < row.length; p++) {
            due(what + ", station of " + p, x.station(p), row[p]);
        }
    }

    private static void chain(StripDies x, int... punches) {
        for (int i = 1; i < punches.length; i++) {
            due("a law of the chain", x.ahead(punches[i - 1], punches[i]), 1);
        }
    }

    private static void ranges10() {
        sentence(10, "UNKNOWN; OUTSIDE: kind, x, y, thick");
        dueRange("punch of shape", 0, 2, UNKNOWN, s -> withShapes(CELL, CELL, CELL).punch(0, s, 0, 0, 1));
        dueRange("punch of the twelfth shape", 0, 11, UNKNOWN, s -> twelveShapes().punch(0, s, 0, 0, 1));
        dueRange("punch of kind", 0, 2, OUTSIDE, kind -> withShapes(CELL).punch(kind, 0, 0, 0, 1));
        dueRange("punch at x", 0, 60, OUTSIDE, px -> withShapes(CELL).punch(0, 0, px, 0, 1));
        dueRange("punch at y", 0, 20, OUTSIDE, py -> withShapes(CELL).punch(0, 0, 0, py, 1));
        dueRange("punch of thickness", 1, 20, OUTSIDE, thick -> withShapes(CELL).punch(0, 0, 0, 0, thick));
        due("punch of no shape", new StripDies().punch(0, 0, 0, 0, 1), UNKNOWN);
        due("punch of no shape, all else outside", new StripDies().punch(3, 0, 61, 21, 21), UNKNOWN);
        StripDies x = withShapes(BLOCK);
        due("the block at the farthest place", x.punch(2, 0, 60, 20, 20), 0);
    }

    private static StripDies twelveShapes() {
        StripDies x = withShapes(CELL);
        for (int s = 1; s < 12; s++) {
            x.turn(0, 0);
        }
        return x;
    }

    private static void ten10() {
        sentence(10, "PUNCHES, 10 ever, numbered as they come");
        StripDies x = withShapes(CELL);
        for (int p = 0; p < 10; p++) {
            due("no punch " + p + " yet", x.punched(p, 0), UNKNOWN);
            due("punch", x.punch(p % 3, 0, p, p, p + 1), p);
            due("punches", x.told(1), p + 1);
        }
        for (int k = 0; k < 2; k++) {
            due("the eleventh", x.punch(0, 0, 0, 0, 1), FULL);
            due("punches", x.told(1), 10);
        }
        due("the eleventh, outside", x.punch(3, 0, 0, 0, 1), OUTSIDE);
        due("the eleventh, of no shape", x.punch(0, 1, 0, 0, 1), UNKNOWN);
        due("the tenth", x.punched(9, 2), 9);
        due("none behind it", x.punched(10, 2), UNKNOWN);
    }

    private static void ranges11() {
        sentence(11, "A LAW: a ahead of b: 1; 0: it was. UNKNOWN");
        dueRange("ahead, a", 0, 3, UNKNOWN, a -> cutsAt(0, 1, 2, 3).ahead(a, a == 0 ? 1 : 0));
        dueRange("ahead, b", 0, 3, UNKNOWN, b -> cutsAt(0, 1, 2, 3).ahead(b == 0 ? 1 : 0, b));
        dueRange("ahead, a of ten", 0, 9, UNKNOWN, a -> cutsAt(TEN_APART).ahead(a, a == 0 ? 1 : 0));
        dueRange("ahead, b of ten", 0, 9, UNKNOWN, b -> cutsAt(TEN_APART).ahead(b == 0 ? 1 : 0, b));
        due("ahead of none", new StripDies().ahead(0, 0), UNKNOWN);
        due("none ahead of itself", cutsAt(0).ahead(1, 1), UNKNOWN);
        due("none below 0 ahead of itself", cutsAt(0).ahead(-1, -1), UNKNOWN);
    }

    private static void itself11() {
        sentence(11, "STATE: b is ahead of a by LAWS (or is a)");
        StripDies alone = cutsAt(0);
        due("ahead of itself", alone.ahead(0, 0), STATE);
        due("laws", alone.told(2), 0);
        for (int links = 1; links < 10; links++) {
            StripDies x = cutsAt(TEN_APART);
            for (int p = 0; p < links; p++) {
                x.ahead(p, p + 1);
            }
            due("the last ahead of the first, " + links + " laws between", x.ahead(links, 0), STATE);
            due("laws", x.told(2), links);
            x.free(links - 1, links);
            due("the last ahead of the first, a law less between", x.ahead(links, 0), 1);
        }
        for (int links = 1; links < 10; links++) {
            StripDies x = cutsAt(TEN_APART);
            for (int p = 9; p > 9 - links; p--) {
                x.ahead(p, p - 1);
            }
            due("downward, the last ahead of the first, " + links + " laws between", x.ahead(9 - links, 9), STATE);
        }
        StripDies mixed = cutsAt(TEN_APART);
        chain(mixed, 5, 0, 9, 3, 7, 1, 8, 2, 6, 4);
        due("a chain to and fro", mixed.ahead(4, 5), STATE);
        due("a chain to and fro, between", mixed.ahead(6, 0), STATE);
    }

    private static void again11() {
        sentence(11, "1; 0: it was");
        StripDies x = cutsAt(0, 10, 20);
        due("a law", x.ahead(0, 1), 1);
        due("it was", x.ahead(0, 1), 0);
        due("laws", x.told(2), 1);
        due("the next", x.ahead(1, 2), 1);
        due("one that follows, but was none", x.ahead(0, 2), 1);
        due("laws", x.told(2), 3);
        due("it was", x.ahead(0, 2), 0);
        x.free(0, 1);
        due("one that was none any more", x.ahead(0, 1), 1);
        due("laws", x.told(2), 3);
    }

    private static void manyLaws11() {
        sentence(11, "none may come to be ahead of itself");
        StripDies x = cutsAt(TEN_APART);
        int laws = 0;
        for (int a = 0; a < 10; a++) {
            for (int b = 0; b < 10; b++) {
                due("ahead(" + a + ", " + b + ")", x.ahead(a, b), a < b ? 1 : STATE);
                laws += a < b ? 1 : 0;
                due("laws", x.told(2), laws);
            }
        }
        due("as many laws as can be", x.told(2), 45);
        duePlan("all in a row", x, 10, 0, 1, 2, 3, 4, 5, 6, 7, 8, 9);
    }

    private static void free12() {
        sentence(12, "A LAW is none any more: 1; 0: it was none. UNKNOWN.");
        StripDies x = cutsAt(0, 10, 20);
        due("free of no law", x.free(0, 1), 0);
        due("free of itself", x.free(0, 0), 0);
        x.ahead(0, 1);
        x.ahead(1, 2);
        due("free the other way round", x.free(1, 0), 0);
        due("free of one that follows alone", x.free(0, 2), 0);
        due("it still follows", x.must(0, 2), 1);
        due("laws", x.told(2), 2);
        due("free", x.free(0, 1), 1);
        due("free again", x.free(0, 1), 0);
        due("laws", x.told(2), 1);
        due("free of the last", x.free(1, 2), 1);
        due("laws", x.told(2), 0);
        dueRange("free, a", 0, 2, UNKNOWN, a -> x.free(a, 0));
        dueRange("free, b", 0, 2, UNKNOWN, b -> x.free(0, b));
        due("free of none", new StripDies().free(0, 0), UNKNOWN);
        StripDies kept = cutsAt(0, 10, 20);
        chain(kept, 0, 1, 2);
        kept.ahead(0, 2);
        kept.free(0, 1);
        due("the law of its own stays", kept.must(0, 2), 1);
        due("the chain does not", kept.must(0, 1), 0);
    }

    private static void must13() {
        sentence(13, "Whether a has to be ahead of b, by LAWS one behind the other: 1, 0");
        int[][] chains = {{0, 1, 2, 3, 4, 5, 6, 7, 8, 9}, {9, 8, 7, 6, 5, 4, 3, 2, 1, 0}, {5, 0, 9, 3, 7, 1, 8, 2, 6, 4}};
        for (int[] one : chains) {
            StripDies x = cutsAt(TEN_APART);
            chain(x, one);
            for (int i = 0; i < 10; i++) {
                for (int j = 0; j < 10; j++) {
                    due("must(" + one[i] + ", " + one[j] + ")", x.must(one[i], one[j]), i < j ? 1 : 0);
                }
            }
        }
        StripDies none = cutsAt(0, 0);
        due("in one place, but by no law", none.must(0, 1), 0);
        due("of itself", none.must(0, 0), 0);
        dueRange("must, a", 0, 1, UNKNOWN, a -> none.must(a, 0));
        dueRange("must, b", 0, 1, UNKNOWN, b -> none.must(0, b));
        dueRange("must of ten, a", 0, 9, UNKNOWN, a -> cutsAt(TEN_APART).must(a, 0));
        dueRange("must of ten, b", 0, 9, UNKNOWN, b -> cutsAt(TEN_APART).must(0, b));
        due("must of none", new StripDies().must(0, 0), UNKNOWN);
    }

    private static void ranges14() {
        sentence(14, "1, 0; of one itself 1. UNKNOWN.");
        StripDies x = cutsAt(0, 0, 1);
        for (int g = 0; g < 5; g++) {
            x.rule(2, g);
            for (int p = 0; p < 3; p++) {
                due("together(" + p + ", " + p + ")", x.together(p, p), 1);
            }
            due("two in one place", x.together(0, 1), 0);
        }
        dueRange("together, a", 0, 2, UNKNOWN, a -> x.together(a, 0));
        dueRange("together, b", 0, 2, UNKNOWN, b -> x.together(0, b));
        due("together of none and itself", x.together(3, 3), UNKNOWN);
        due("together of none", new StripDies().together(0, 0), UNKNOWN);
    }

    private static void wall14() {
        sentence(14, "two PUNCHES may be in one STATION, if their cells (where they are) are APART with g in place of w");
        for (int dx = -6; dx <= 6; dx++) {
            for (int dy = -6; dy <= 6; dy++) {
                StripDies x = withShapes(CELL);
                cutAt(x, 30, 10);
                cutAt(x, 30 + dx, 10 + dy);
                // Up and down again: a lesser wall holds nothing of the greater one ahead of it.
                for (int g : new int[] {0, 1, 2, 3, 4, 3, 2, 1, 0}) {
                    x.rule(2, g);
                    int due = Math.max(Math.abs(dx), Math.abs(dy)) > g ? 1 : 0;
                    due("wall " + g + ", beside it by " + dx + ", " + dy, x.together(0, 1), due);
                    due("stations, wall " + g + ", beside it by " + dx + ", " + dy, x.stations(), 2 - due);
                }
            }
        }
        StripDies far = withShapes(CELL, BLOCK);
        far.punch(0, 1, 0, 0, 1);
        far.punch(0, 1, 60, 20, 1);
        far.punch(0, 1, 60, 0, 1);
        far.punch(0, 1, 0, 20, 1);
        far.rule(2, 4);
        for (int a = 0; a < 4; a++) {
            for (int b = 0; b < 4; b++) {
                due("in the corners, together(" + a + ", " + b + ")", far.together(a, b), 1);
            }
        }
        StripDies webbed = cutsAt(0, 1);
        webbed.rule(0, 3);
        webbed.rule(1, 3);
        due("the web and the margin are no wall", webbed.together(0, 1), 1);
    }

    private static void wallOfShapes14() {
        sentence(14, "two PUNCHES may be in one STATION, if their cells (where they are) are APART with g in place of w");
        for (int g = 0; g < 5; g++) {
            for (int far = 7; far <= 13; far++) {
                StripDies x = withShapes(BLOCK);
                cutAt(x, 20, 0);
                cutAt(x, 20 + far, 7);
                cutAt(x, 20 - far, 7);
                cutAt(x, 27, far);
                x.rule(2, g);
                int due = far >= 8 + g ? 1 : 0;
                due("wall " + g + ", blocks apart by " + far, x.together(0, 1), due);
                due("wall " + g + ", blocks apart by " + -far, x.together(0, 2), due);
                due("wall " + g + ", blocks over one another by " + far, x.together(0, 3), due);
                due("wall " + g + ", the other way round", x.together(3, 0), due);
            }
        }
        StripDies hooks = withShapes(new int[] {7, 1});
        int[][] places = {{10, 10}, {11, 11}, {9, 11}, {9, 9}, {11, 9}};
        int[] withFirst = {1, 1, 0, 1, 0};
        for (int p = 0; p < 5; p++) {
            cutAt(hooks, places[p][0], places[p][1]);
            due("hooks, together(0, " + p + ")", hooks.together(0, p), withFirst[p]);
            due("hooks, together(" + p + ", 0)", hooks.together(p, 0), withFirst[p]);
        }
        StripDies frame = withShapes(CELL, new int[] {0xFF, 0x81, 0x81, 0x81, 0x81, 0x81, 0x81, 0xFF});
        frame.punch(0, 1, 10, 10, 1);
        cutAt(frame, 13, 13);
        due("in a frame", frame.together(0, 1), 1);
        frame.rule(2, 2);
        due("in a frame, wall 2", frame.together(0, 1), 1);
        frame.rule(2, 3);
        due("in a frame, wall 3", frame.together(0, 1), 0);
    }

    private static void laws14() {
        sentence(14, "(and LAWS: 0, if one must be ahead)");
        StripDies x = cutsAt(0, 10, 20, 30);
        chain(x, 2, 0, 1);
        int[][] all = {{1, 0, 0, 1}, {0, 1, 0, 1}, {0, 0, 1, 1}, {1, 1, 1, 1}};
        for (int a = 0; a < 4; a++) {
            for (int b = 0; b < 4; b++) {
                due("together(" + a + ", " + b + ")", x.together(a, b), all[a][b]);
            }
        }
        x.free(2, 0);
        due("free of the law", x.together(0, 2), 1);
        due("free of the chain", x.together(1, 2), 1);
        due("not of the other law", x.together(1, 0), 0);
    }

    private static void none15() {
        sentence(15, "How many STATIONS there are (0 without PUNCHES)");
        StripDies x = withShapes(CELL);
        due("stations of no punch", x.stations(), 0);
        x.rule(2, 4);
        due("stations of no punch, the greatest wall", x.stations(), 0);
        cutAt(x, 0, 0);
        due("stations of one", x.stations(), 1);
        cutAt(x, 5, 0);
        due("stations of two that are apart", x.stations(), 1);
        cutAt(x, 5, 0);
        due("stations of two that are not", x.stations(), 2);
    }

    private static void fewest15() {
        sentence(15, "so that all LAWS and THE WALL hold, and there are as few as can be");
        StripDies path = cutsAt(0, 3, 1, 2);
        path.rule(2, 1);
        duePlan("a path of four: each as early as can be would take three", path, 2, 0, 1, 1, 0);
        StripDies crown = withShapes(CELL);
        for (int p = 0; p < 5; p++) {
            cutAt(crown, 2 * p, 0);
            cutAt(crown, 2 * p, 1);
        }
        crown.rule(2, 1);
        due("pairs, each over the other", crown.stations(), 2);
        crown.rule(2, 2);
        due("pairs, and their neighbours", crown.stations(), 4);
        crown.rule(2, 3);
        due("pairs, and their neighbours still", crown.stations(), 4);
        crown.rule(2, 4);
        due("pairs, and the next but one", crown.stations(), 6);
        StripDies lawful = cutsAt(0, 10, 20, 30, 40, 50);
        chain(lawful, 0, 1, 2);
        chain(lawful, 5, 4, 3);
        due("two chains of three", lawful.stations(), 3);
        lawful.ahead(2, 5);
        due("one chain of six", lawful.stations(), 6);
        StripDies both = cutsAt(0, 0, 0, 10, 20);
        chain(both, 3, 4, 0);
        duePlan("a law holds one back, the wall the others", both, 3, 2, 0, 1, 0, 1);
    }

    private static void most15() {
        sentence(15, "STATIONS: each PUNCH in one, numbered from 0 on");
        for (int n = 1; n <= 10; n++) {
            StripDies heap = withShapes(CELL), wide = withShapes(CELL), lawful = withShapes(CELL);
            for (int p = 0; p < n; p++) {
                cutAt(heap, 5, 5);
                cutAt(wide, 6 * p, 0);
                cutAt(lawful, 6 * p, 0);
                lawful.ahead(p, p - 1);
            }
            due(n + " in one place", heap.stations(), n);
            due("the last of " + n + " in one place", heap.station(n - 1), n - 1);
            due("no station behind it", heap.force(n, 0), LOST);
            due(n + " apart", wide.stations(), 1);
            due("the last of " + n + " apart", wide.station(n - 1), 0);
            due(n + " by laws", lawful.stations(), n);
            due("the last of " + n + " by laws", lawful.station(n - 1), 0);
            due("the first of " + n + " by laws", lawful.station(0), n - 1);
        }
    }

    private static void fresh15() {
        sentence(15, "How many STATIONS there are");
        StripDies x = cutsAt(0, 3);
        due("at first", x.stations(), 1);
        x.rule(2, 3);
        due("behind rule()", x.stations(), 2);
        x.rule(2, 2);
        due("behind rule() back", x.stations(), 1);
        x.ahead(1, 0);
        due("behind ahead()", x.station(0), 1);
        x.free(1, 0);
        due("behind free()", x.station(0), 0);
        cutAt(x, 1, 0);
        due("behind punch()", x.stations(), 2);
        x.rule(2, 0);
        due("force behind rule()", x.force(0, 3), 3);
        x.rule(2, 1);
        due("peak behind rule()", x.peak(1, 1), 4);
        x.rule(0, 3);
        due("behind another rule()", x.stations(), 2);
    }

    private static void ranges16() {
        sentence(16, "The STATION of a PUNCH. UNKNOWN.");
        due("station of none", new StripDies().station(0), UNKNOWN);
        dueRange("station of the only one,", 0, 0, UNKNOWN, p -> cutsAt(0).station(p));
        dueRange("station of three,", 0, 2, UNKNOWN, p -> cutsAt(0, 0, 0).station(p));
        dueRange("station of ten,", 0, 9, UNKNOWN, p -> cutsAt(TEN_APART).station(p));
    }

    private static void leastRow16() {
        sentence(16, "of several such plans the one of the least row of STATIONS, by PUNCHES from 0 on");
        duePlan("in one place, as they come", cutsAt(5, 5, 5, 5), 4, 0, 1, 2, 3);
        StripDies last = cutsAt(5, 5, 5, 5);
        last.ahead(3, 0);
        duePlan("the last one ahead of the first", last, 4, 1, 2, 3, 0);
        StripDies late = cutsAt(5, 5, 5, 5);
        late.ahead(3, 1);
        duePlan("the last one ahead of the second", late, 4, 0, 2, 3, 1);
        StripDies early = cutsAt(0, 10, 20, 30);
        chain(early, 3, 0, 2);
        duePlan("one that could be anywhere is early", early, 3, 1, 0, 2, 0);
        StripDies two = cutsAt(0, 10, 10, 0);
        duePlan("two in each of two places", two, 2, 0, 0, 1, 1);
        two.ahead(2, 1);
        duePlan("the second place the other way round", two, 2, 0, 1, 0, 1);
        StripDies greedy = cutsAt(0, 0, 10, 20);
        chain(greedy, 0, 2, 3);
        duePlan("the first is early, whoever is in its place", greedy, 3, 0, 1, 1, 2);
        StripDies costly = cutsAt(0, 0, 10);
        costly.ahead(1, 2);
        duePlan("the first would be early, but then there were three", costly, 2, 1, 0, 1);
    }

    private static StripDies threeStations() {
        StripDies x = withShapes(CELL, new int[] {7, 1});
        x.punch(0, 0, 0, 0, 1);
        x.punch(2, 1, 10, 5, 3);
        x.punch(1, 1, 60, 20, 20);
        x.punch(0, 0, 60, 20, 20);
        chain(x, 0, 1, 2);
        return x;
    }

    private static void ranges17() {
        sentence(17, "LOST: UNKNOWN, OUTSIDE");
        StripDies x = threeStations();
        dueRange("force of station", 0, 2, LOST, station -> x.force(station, 0));
        dueAll("force of none", what -> new StripDies().force(0, what), LOST, LOST, LOST, LOST, LOST);
        dueAll("force of the least", what -> x.force(0, what), LOST, 4 + 80, 4 * 1 + 80 * 121, 4 * 1 + 80 * 41, 2);
        dueAll("force of a bend", what -> x.force(1, what), LOST, 15, 15 * 23, 15 * 12, 1);
        dueAll("force of a pilot", what -> x.force(2, what), LOST, 200, 200 * 123, 200 * 42, 1);
    }

    private static void sums17() {
        sentence(17, "FORCE of a STATION (what 0), sums for CENTRE (1 x, 2 y), PUNCHES (3)");
        StripDies x = withShapes(CHESS, CELL);
        x.punch(0, 0, 60, 20, 20);
        dueAll("force of the greatest punch", what -> x.force(0, what), LOST, 2560, 2560 * 128, 2560 * 48, 1);
        StripDies ten = withShapes(BLOCK);
        int sum = 0, right = 0, up = 0;
        for (int p = 0; p < 10; p++) {
            int px = 12 * (p % 5), py = p < 5 ? 0 : 20, force = 32 * (p + 11);
            ten.punch(1, 0, px, py, p + 11);
            sum += force;
            right += force * (2 * px + 8);
            up += force * (2 * py + 8);
        }
        ten.rule(2, 4);
        long[] sums = {sum, right, up, 10};
        dueAll("force of ten", what -> ten.force(0, what), LOST, sums);
        due("no second station", ten.force(1, 0), LOST);
        StripDies least = withShapes(CELL);
        least.punch(2, 0, 0, 0, 1);
        dueAll("force of the least punch", what -> least.force(0, what), LOST, 2, 2, 2, 1);
    }

    private static void ranges18() {
        sentence(18, "THE PEAK of a STATION with s STEPS. UNKNOWN; OUTSIDE.");
        StripDies x = threeStations();
        dueRange("peak of station", 0, 2, UNKNOWN, station -> x.peak(station, 1));
        dueRange("peak with steps", 1, 4, OUTSIDE, s -> x.peak(0, s));
        due("peak of none, outside", x.peak(3, 0), UNKNOWN);
        due("peak below 0, outside", x.peak(-1, 5), UNKNOWN);
        due("peak of no punch", new StripDies().peak(0, 1), UNKNOWN);
    }

    /** Pilots of one cell, all in one station: their forces are four times these. */
    private static StripDies pilots(int... thick) {
        StripDies x = withShapes(CELL);
        for (int p = 0; p < thick.length; p++) {
            x.punch(1, 0, 6 * p, 0, thick[p]);
        }
        return x;
    }

    private static void duePeaks(StripDies x, int... peaks) {
        for (int s = 1; s <= 4; s++) {
            due("peak(0, " + s + ")", x.peak(0, s), 4 * peaks[s - 1]);
        }
    }

    private static void steps18() {
        sentence(18, "THE PEAK is the greatest sum of FORCES at one STEP: the least that can be with s STEPS (1 .. 4) over all ways");
        duePeaks(pilots(1), 1, 1, 1, 1);
        duePeaks(pilots(20), 20, 20, 20, 20);
        duePeaks(pilots(3, 5), 8, 5, 5, 5);
        duePeaks(pilots(1, 1, 1), 3, 2, 1, 1);
        duePeaks(pilots(1, 1, 1, 1), 4, 2, 2, 1);
        duePeaks(pilots(1, 1, 1, 1, 1), 5, 3, 2, 2);
        // Each to the step that bears least, the greatest first, would come to 7 with two steps.
        duePeaks(pilots(3, 3, 2, 2, 2), 12, 6, 5, 4);
        // The same would come to 11 with three steps.
        duePeaks(pilots(5, 5, 4, 4, 3, 3, 3), 27, 14, 9, 8);
        StripDies bends = withShapes(CELL, CHESS);
        bends.punch(2, 1, 0, 0, 20);
        bends.punch(2, 0, 20, 0, 1);
        due("a bend's force is the half", bends.peak(0, 2), 1280);
        due("a bend's force is the half, at once", bends.peak(0, 1), 1282);
        StripDies odd = withShapes(CELL, new int[] {3});
        odd.punch(2, 1, 0, 0, 3);
        odd.punch(2, 1, 10, 0, 1);
        odd.punch(2, 0, 20, 0, 1);
        odd.punch(2, 0, 30, 0, 4);
        due("9 and 2, 3 and 8, though 12 is next to it", odd.peak(0, 2), 11);
    }

    private static void tenPunches18() {
        sentence(18, "(PUNCHES of a STATION are 10 at most)");
        duePeaks(pilots(1, 1, 1, 1, 1, 1, 1, 1, 1, 1), 10, 5, 4, 3);
        duePeaks(pilots(1, 2, 3, 4, 5, 6, 7, 8, 9, 10), 55, 28, 19, 14);
        duePeaks(pilots(20, 20, 20, 20, 20, 20, 20, 20, 20, 20), 200, 100, 80, 60);
        duePeaks(pilots(20, 1, 1, 1, 1, 1, 1, 1, 1, 1), 29, 20, 20, 20);
        StripDies split = pilots(9, 8, 7, 6, 5, 4, 3, 2, 1, 20);
        split.ahead(9, 0);
        due("the others' station", split.stations(), 2);
        due("nine of ten are left", split.force(0, 3), 9);
        due("peak of nine", split.peak(0, 1), 4 * 56);
        due("peak of nine, two steps", split.peak(0, 2), 4 * 28);
        due("peak of the tenth", split.peak(1, 4), 4 * 9);
    }

    private static void ranges19() {
        sentence(19, "Of a PUNCH: 0 kind, 1 SHAPE, 2 x, 3 y, 4 THICK, 5 FORCE. UNKNOWN; OUTSIDE.");
        StripDies x = threeStations();
        dueAll("punched, the least", what -> x.punched(0, what), OUTSIDE, 0, 0, 0, 0, 1, 4);
        dueAll("punched, a bend", what -> x.punched(1, what), OUTSIDE, 2, 1, 10, 5, 3, 15);
        dueAll("punched, a pilot", what -> x.punched(2, what), OUTSIDE, 1, 1, 60, 20, 20, 200);
        dueRange("punched of four,", 0, 3, UNKNOWN, p -> x.punched(p, 4));
        dueRange("punched of ten,", 0, 9, UNKNOWN, p -> cutsAt(TEN_APART).punched(p, 4));
        due("punched of none", new StripDies().punched(0, 0), UNKNOWN);
        due("punched of none, outside", x.punched(4, 6), UNKNOWN);
    }

    private static void forces19() {
        // An EDGE is always even, so that the half of it times THICK is never cut.
        sentence(19, "its SHAPE's EDGE times its THICK (1 .. 20); of a BEND half of that (cut)");
        StripDies x = withShapes(CELL, CHESS, new int[] {7, 1});
        int[] edges = {4, 128, 10};
        int[][] kinds = {{0, 1}, {1, 1}, {2, 2}};
        int p = 0;
        for (int s = 0; s < 3; s++) {
            for (int[] kind : kinds) {
                int thick = kind[0] == 0 ? 1 : kind[0] == 1 ? 20 : 19;
                due("punch", x.punch(kind[0], s, 0, 0, thick), p);
                due("force of kind " + kind[0] + ", shape " + s, x.punched(p++, 5), edges[s] * thick / kind[1]);
            }
        }
    }
}
