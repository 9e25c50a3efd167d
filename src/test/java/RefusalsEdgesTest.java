import java.lang.reflect.InvocationTargetException;
import java.lang.reflect.Method;
import java.lang.reflect.Modifier;
import java.util.function.ToLongFunction;

/** The refusals and faults of all promises: which one comes first, that they change nothing, and that nothing is ever thrown. */
public final class RefusalsEdgesTest extends Edges {
    private static final int[] EXTREMES = {LEAST, -1, 0, 1, MOST};

    public static void main(String[] args) throws IllegalAccessException {
        shapes2();
        fullShapes2();
        turns3();
        ofShapes4to9();
        punches10();
        fullPunches10();
        laws11to14();
        stations16to19();
        coils20();
        sheets21to24();
        parts25to30();
        constants1();
        anyNumbers();
        lastCalls();
        end();
    }

    /** Two shapes, three punches, a law, rows in sheets 0, 1 and 3, nothing in sheet 2, all rules above 0, a fault, a trace. */
    private static StripDies some() {
        StripDies x = withShapes(new int[] {1}, new int[] {7, 1});
        x.punch(0, 0, 0, 0, 1);
        x.punch(1, 1, 10, 5, 2);
        x.punch(2, 1, 20, 9, 3);
        x.ahead(0, 1);
        x.sheet(0, 0, 8);
        x.put(0, 3, 5);
        x.sheet(1, 1, 0);
        x.rule(0, 1);
        x.rule(1, 2);
        x.rule(2, 3);
        x.tell(2);
        x.put(2, 0, 0);
        return x;
    }

    /** The same with as many shapes and punches as there can be. */
    private static StripDies full() {
        StripDies x = some();
        for (int s = 2; s < 12; s++) {
            x.turn(1, s % 8);
        }
        for (int p = 3; p < 10; p++) {
            x.punch(p % 3, p, 6 * p, p, p);
        }
        return x;
    }

    /** All that can be asked of an object but its fault, in fewer than 400 calls. */
    private static String stateOf(StripDies x) {
        StringBuilder all = new StringBuilder();
        all.append(x.trace()).append(' ');
        for (int what = 0; what < 6; what++) {
            all.append(x.told(what)).append(' ');
        }
        for (int s = 0; s < 2; s++) {
            for (int cell = 0; cell < 64; cell++) {
                all.append(x.has(s, cell % 8, cell / 8));
            }
            all.append(x.alone(s, 2)).append(' ').append(x.best(s, 1, 3)).append(' ');
        }
        for (int s = 2; s < 13; s++) {
            all.append(x.about(s, 0)).append(x.about(s, 3)).append(' ');
        }
        for (int p = 0; p < 4; p++) {
            for (int what = 0; what < 6; what++) {
                all.append(x.punched(p, what)).append(' ');
            }
            for (int q = 0; q < 4; q++) {
                all.append(x.must(p, q));
            }
            all.append(x.station(p));
        }
        all.append(x.stations()).append(' ').append(x.force(0, 1)).append(' ');
        for (int k = 0; k < 4; k++) {
            for (int i = 0; i < 9; i++) {
                all.append(x.at(k, i, new int[] {0, 1, 0, 2}[k])).append(' ');
            }
            all.append(x.lose(k)).append(' ');
        }
        return all.toString();
    }

    /** A call that is refused, or comes to a fault: its answer, fault() behind it, and nothing else is changed. */
    private static void dueRefused(StripDies x, StripDies same, String text, ToLongFunction<StripDies> call, long want, int fault) {
        due(text, call.applyAsLong(x), want);
        due("fault() behind " + text, x.fault(), fault);
        due("whether " + text + " changes nothing", stateOf(x).equals(stateOf(same)) ? 1 : 0, 1);
    }

    /** Refused by a call that names no FAULTS, so that the one of the call ahead of it stays. */
    private static void refused(String text, ToLongFunction<StripDies> call, long want) {
        dueRefused(some(), some(), text, call, want, 1);
    }

    /** Refused by a call that names FAULTS. */
    private static void cleared(String text, ToLongFunction<StripDies> call, long want) {
        dueRefused(some(), some(), text, call, want, 0);
    }

    private static void faulted(String text, ToLongFunction<StripDies> call, long want, int fault) {
        dueRefused(some(), some(), text, call, want, fault);
    }

    private static void shapes2() {
        sentence(2, "UNKNOWN; OUTSIDE: lane; FAULTS CAST (nothing is no CAST), NULL, INDEX: not all eight are there; OUTSIDE: it is empty; FULL");
        cleared("shape(4, 3, -1)", x -> x.shape(4, 3, -1), UNKNOWN);
        cleared("shape(-1, 0, 0)", x -> x.shape(-1, 0, 0), UNKNOWN);
        cleared("shape(2, 3, -1)", x -> x.shape(2, 3, -1), OUTSIDE);
        cleared("shape(0, -1, 0)", x -> x.shape(0, -1, 0), OUTSIDE);
        faulted("shape(2, 1, -1)", x -> x.shape(2, 1, -1), NULL, 1);
        faulted("shape(1, 0, 0)", x -> x.shape(1, 0, 0), CAST, 2);
        faulted("shape(0, 1, -1)", x -> x.shape(0, 1, -1), CAST, 2);
        faulted("shape(1, 1, 0)", x -> x.shape(1, 1, 0), INDEX, 3);
        faulted("shape(0, 0, 1)", x -> x.shape(0, 0, 1), INDEX, 3);
        faulted("shape(0, 0, -1)", x -> x.shape(0, 0, -1), INDEX, 3);
        StripDies x = some(), same = some();
        for (StripDies one : new StripDies[] {x, same}) {
            one.put(0, 3, 0);
        }
        dueRefused(x, same, "shape(0, 0, 0), empty", one -> one.shape(0, 0, 0), OUTSIDE, 0);
    }

    private static void fullShapes2() {
        sentence(2, "OUTSIDE: it is empty; FULL");
        dueRefused(full(), full(), "shape(0, 0, 0), full", x -> x.shape(0, 0, 0), FULL, 0);
        dueRefused(full(), full(), "shape(4, 0, 0), full", x -> x.shape(4, 0, 0), UNKNOWN, 0);
        dueRefused(full(), full(), "shape(0, 3, 0), full", x -> x.shape(0, 3, 0), OUTSIDE, 0);
        dueRefused(full(), full(), "shape(2, 0, 0), full", x -> x.shape(2, 0, 0), NULL, 1);
        dueRefused(full(), full(), "shape(0, 1, 0), full", x -> x.shape(0, 1, 0), CAST, 2);
        dueRefused(full(), full(), "shape(0, 0, 1), full", x -> x.shape(0, 0, 1), INDEX, 3);
        StripDies x = full(), same = full();
        for (StripDies one : new StripDies[] {x, same}) {
            one.put(0, 3, 0);
        }
        dueRefused(x, same, "shape(0, 0, 0), full and empty", one -> one.shape(0, 0, 0), OUTSIDE, 0);
    }

    private static void turns3() {
        sentence(3, "UNKNOWN; OUTSIDE; FULL");
        refused("turn(2, 8)", x -> x.turn(2, 8), UNKNOWN);
        refused("turn(-1, 0)", x -> x.turn(-1, 0), UNKNOWN);
        refused("turn(1, 8)", x -> x.turn(1, 8), OUTSIDE);
        refused("turn(1, -1)", x -> x.turn(1, -1), OUTSIDE);
        dueRefused(full(), full(), "turn(11, 7), full", x -> x.turn(11, 7), FULL, 1);
        dueRefused(full(), full(), "turn(11, 8), full", x -> x.turn(11, 8), OUTSIDE, 1);
        dueRefused(full(), full(), "turn(12, 0), full", x -> x.turn(12, 0), UNKNOWN, 1);
    }

    private static void ofShapes4to9() {
        sentence(4, "UNKNOWN; OUTSIDE");
        refused("about(2, 5)", x -> x.about(2, 5), UNKNOWN);
        refused("about(1, 5)", x -> x.about(1, 5), OUTSIDE);
        sentence(5, "UNKNOWN; OUTSIDE: x, y are not 0 .. 7");
        refused("has(2, 8, 8)", x -> x.has(2, 8, 8), UNKNOWN);
        refused("has(1, 8, 0)", x -> x.has(1, 8, 0), OUTSIDE);
        refused("has(1, 0, -1)", x -> x.has(1, 0, -1), OUTSIDE);
        sentence(6, "UNKNOWN: what; OUTSIDE");
        refused("rule(3, 5)", x -> x.rule(3, 5), UNKNOWN);
        refused("rule(-1, -1)", x -> x.rule(-1, -1), UNKNOWN);
        refused("rule(0, 4)", x -> x.rule(0, 4), OUTSIDE);
        refused("rule(1, 4)", x -> x.rule(1, 4), OUTSIDE);
        refused("rule(2, 5)", x -> x.rule(2, 5), OUTSIDE);
        sentence(7, "UNKNOWN; OUTSIDE");
        refused("alone(2, 4)", x -> x.alone(2, 4), UNKNOWN);
        refused("alone(1, 4)", x -> x.alone(1, 4), OUTSIDE);
        sentence(8, "UNKNOWN; OUTSIDE: t, dx, dy, what; STATE: they are not APART");
        refused("pair(2, 0, 8, 32, 9, 4)", x -> x.pair(2, 0, 8, 32, 9, 4), UNKNOWN);
        refused("pair(0, 2, 8, 32, 9, 4)", x -> x.pair(0, 2, 8, 32, 9, 4), UNKNOWN);
        refused("pair(0, 0, 8, 0, 0, 0)", x -> x.pair(0, 0, 8, 0, 0, 0), OUTSIDE);
        refused("pair(0, 0, 0, -1, 0, 0)", x -> x.pair(0, 0, 0, -1, 0, 0), OUTSIDE);
        refused("pair(0, 0, 0, 0, -9, 0)", x -> x.pair(0, 0, 0, 0, -9, 0), OUTSIDE);
        refused("pair(0, 0, 0, 0, 0, 4)", x -> x.pair(0, 0, 0, 0, 0, 4), OUTSIDE);
        refused("pair(0, 0, 0, 1, 1, 0)", x -> x.pair(0, 0, 0, 1, 1, 0), STATE);
        sentence(9, "UNKNOWN; OUTSIDE");
        refused("best(2, 0, 4)", x -> x.best(2, 0, 4), UNKNOWN);
        refused("best(0, 2, 4)", x -> x.best(0, 2, 4), UNKNOWN);
        refused("best(0, 0, 4)", x -> x.best(0, 0, 4), OUTSIDE);
    }

    private static void punches10() {
        sentence(10, "UNKNOWN; OUTSIDE: kind, x, y, thick; FULL");
        refused("punch(3, 2, 61, 21, 21)", x -> x.punch(3, 2, 61, 21, 21), UNKNOWN);
        refused("punch(3, 0, 0, 0, 1)", x -> x.punch(3, 0, 0, 0, 1), OUTSIDE);
        refused("punch(0, 0, 61, 0, 1)", x -> x.punch(0, 0, 61, 0, 1), OUTSIDE);
        refused("punch(0, 0, 0, 21, 1)", x -> x.punch(0, 0, 0, 21, 1), OUTSIDE);
        refused("punch(0, 0, 0, 0, 0)", x -> x.punch(0, 0, 0, 0, 0), OUTSIDE);
    }

    private static void fullPunches10() {
        sentence(10, "OUTSIDE: kind, x, y, thick; FULL");
        dueRefused(full(), full(), "punch(0, 0, 0, 0, 1), full", x -> x.punch(0, 0, 0, 0, 1), FULL, 1);
        dueRefused(full(), full(), "punch(0, 0, 0, 0, 21), full", x -> x.punch(0, 0, 0, 0, 21), OUTSIDE, 1);
        dueRefused(full(), full(), "punch(0, 12, 0, 0, 1), full", x -> x.punch(0, 12, 0, 0, 1), UNKNOWN, 1);
    }

    private static void laws11to14() {
        sentence(11, "UNKNOWN; STATE: b is ahead of a by LAWS (or is a)");
        refused("ahead(3, 3)", x -> x.ahead(3, 3), UNKNOWN);
        refused("ahead(-1, 0)", x -> x.ahead(-1, 0), UNKNOWN);
        refused("ahead(0, 3)", x -> x.ahead(0, 3), UNKNOWN);
        refused("ahead(1, 0)", x -> x.ahead(1, 0), STATE);
        refused("ahead(2, 2)", x -> x.ahead(2, 2), STATE);
        refused("ahead(0, 1), it was", x -> x.ahead(0, 1), 0);
        sentence(12, "0: it was none. UNKNOWN.");
        refused("free(3, 0)", x -> x.free(3, 0), UNKNOWN);
        refused("free(0, -1)", x -> x.free(0, -1), UNKNOWN);
        refused("free(1, 0), it was none", x -> x.free(1, 0), 0);
        sentence(13, "UNKNOWN");
        refused("must(3, 0)", x -> x.must(3, 0), UNKNOWN);
        refused("must(0, 3)", x -> x.must(0, 3), UNKNOWN);
        sentence(14, "UNKNOWN");
        refused("together(3, 3)", x -> x.together(3, 3), UNKNOWN);
        refused("together(0, 3)", x -> x.together(0, 3), UNKNOWN);
    }

    private static void stations16to19() {
        sentence(16, "UNKNOWN");
        refused("station(3)", x -> x.station(3), UNKNOWN);
        sentence(17, "LOST: UNKNOWN, OUTSIDE");
        refused("force(2, 0)", x -> x.force(2, 0), LOST);
        refused("force(0, 4)", x -> x.force(0, 4), LOST);
        sentence(18, "UNKNOWN; OUTSIDE");
        refused("peak(2, 5)", x -> x.peak(2, 5), UNKNOWN);
        refused("peak(1, 5)", x -> x.peak(1, 5), OUTSIDE);
        refused("peak(1, 0)", x -> x.peak(1, 0), OUTSIDE);
        sentence(19, "UNKNOWN; OUTSIDE");
        refused("punched(3, 6)", x -> x.punched(3, 6), UNKNOWN);
        refused("punched(2, 6)", x -> x.punched(2, 6), OUTSIDE);
    }

    private static void coils20() {
        sentence(20, "OUTSIDE: width, w0, w1, w2, all three are 0, what");
        refused("slit(0, 1, 1, 1, 0)", x -> x.slit(0, 1, 1, 1, 0), OUTSIDE);
        refused("slit(9, 0, 0, 0, 0)", x -> x.slit(9, 0, 0, 0, 0), OUTSIDE);
        refused("slit(9, 1, 1, 1, 5)", x -> x.slit(9, 1, 1, 1, 5), OUTSIDE);
    }

    private static void sheets21to24() {
        sentence(21, "UNKNOWN; OUTSIDE: lane, n above 64; SIZE");
        cleared("sheet(4, 3, -1)", x -> x.sheet(4, 3, -1), UNKNOWN);
        cleared("sheet(0, 3, -1)", x -> x.sheet(0, 3, -1), OUTSIDE);
        cleared("sheet(0, 1, 65)", x -> x.sheet(0, 1, 65), OUTSIDE);
        faulted("sheet(0, 1, -1)", x -> x.sheet(0, 1, -1), SIZE, 4);
        faulted("sheet(2, 1, -1)", x -> x.sheet(2, 1, -1), SIZE, 4);
        sentence(22, "0: it had nothing. UNKNOWN.");
        refused("lose(4)", x -> x.lose(4), UNKNOWN);
        refused("lose(2), it had nothing", x -> x.lose(2), 0);
        sentence(23, "UNKNOWN; NULL; INDEX");
        cleared("put(4, -1, 1)", x -> x.put(4, -1, 1), UNKNOWN);
        faulted("put(2, -1, 1)", x -> x.put(2, -1, 1), NULL, 1);
        faulted("put(0, 8, 1)", x -> x.put(0, 8, 1), INDEX, 3);
        faulted("put(0, -1, 1)", x -> x.put(0, -1, 1), INDEX, 3);
        faulted("put(1, 0, 1)", x -> x.put(1, 0, 1), INDEX, 3);
        sentence(24, "LOST: UNKNOWN, OUTSIDE: lane; FAULTS CAST (nothing is no CAST), NULL, INDEX");
        cleared("at(4, -1, 3)", x -> x.at(4, -1, 3), LOST);
        cleared("at(2, -1, 3)", x -> x.at(2, -1, 3), LOST);
        faulted("at(2, -1, 2)", x -> x.at(2, -1, 2), LOST, 1);
        faulted("at(0, -1, 2)", x -> x.at(0, -1, 2), LOST, 2);
        faulted("at(0, 8, 0)", x -> x.at(0, 8, 0), LOST, 3);
    }

    private static void parts25to30() {
        sentence(25, "UNKNOWN");
        refused("tell(3)", x -> x.tell(3), UNKNOWN);
        sentence(26, "UNKNOWN");
        refused("keep(3)", x -> x.keep(3), UNKNOWN);
        sentence(27, "UNKNOWN; OUTSIDE; CAST: it is none");
        cleared("as(3, 3)", x -> x.as(3, 3), UNKNOWN);
        cleared("as(0, 3)", x -> x.as(0, 3), OUTSIDE);
        faulted("as(1, 2)", x -> x.as(1, 2), CAST, 2);
        faulted("as(0, 1)", x -> x.as(0, 1), CAST, 2);
        sentence(28, "TRACE");
        refused("trace(), which changes nothing", x -> x.trace(), ((3 * 31 + 2) * 31 + 1) * 31 + 1);
        sentence(29, "The FAULT of the latest call that names one");
        refused("fault(), which changes nothing", x -> x.fault(), 1);
        sentence(30, "OUTSIDE");
        refused("told(6)", x -> x.told(6), OUTSIDE);
    }

    private static void constants1() {
        sentence(1, "UNKNOWN = -1, OUTSIDE = -2, STATE = -3, FULL = -4, NONE = -9; LOST = Long.MIN_VALUE");
        due("UNKNOWN", StripDies.UNKNOWN, UNKNOWN);
        due("OUTSIDE", StripDies.OUTSIDE, OUTSIDE);
        due("STATE", StripDies.STATE, STATE);
        due("FULL", StripDies.FULL, FULL);
        due("NONE", StripDies.NONE, -9);
        due("LOST", StripDies.LOST, LOST);
    }

    /** Every call with every choice of extreme numbers: nothing is thrown, and what is refused adds nothing. */
    private static void anyNumbers() throws IllegalAccessException {
        for (Method call : StripDies.class.getDeclaredMethods()) {
            if (!Modifier.isPublic(call.getModifiers())) {
                continue;
            }
            sentence(numberOf(call), "(any numbers)");
            int many = call.getParameterCount(), choices = 1;
            for (int i = 0; i < many; i++) {
                choices *= EXTREMES.length;
            }
            StripDies x = null;
            for (int choice = 0; choice < choices; choice++) {
                x = choice % 100 == 0 ? full() : x;
                anyCall(x, call, choice);
            }
        }
    }

    private static void anyCall(StripDies x, Method call, int choice) throws IllegalAccessException {
        Object[] with = new Object[call.getParameterCount()];
        StringBuilder text = new StringBuilder(call.getName());
        int rest = choice;
        for (int i = 0; i < with.length; i++) {
            with[i] = EXTREMES[rest % EXTREMES.length];
            rest /= EXTREMES.length;
            text.append(i == 0 ? "(" : ", ").append(with[i]);
        }
        try {
            call.invoke(x, with);
        } catch (InvocationTargetException thrown) {
            due(text + ") threw " + thrown.getCause(), 1, 0);
        }
        due("shapes behind " + text + ")", x.told(0), 12);
        due("punches behind " + text + ")", x.told(1), 10);
    }

    private static int numberOf(Method call) {
        String[] names = {"StripDies", "shape", "turn", "about", "has", "rule", "alone", "pair", "best", "punch", "ahead", "free", "must",
            "together", "stations", "station", "force", "peak", "punched", "slit", "sheet", "lose", "put", "at", "tell", "keep", "as",
            "trace", "fault", "told"};
        return java.util.Arrays.asList(names).indexOf(call.getName()) + 1;
    }

    private static void lastCalls() {
        sentence(9, "An object is used for at most 512 calls after it has been made");
        StripDies pairs = withShapes(BLOCK, new int[] {1});
        int[] blocks = {128, 144, 160, 176};
        for (int call = 21; call <= 512; call += 2) {
            int w = call / 2 % 4;
            pairs.rule(0, w);
            due("best, call " + call, pairs.best(0, 0, 3), blocks[w]);
        }
        sentence(20, "An object is used for at most 512 calls after it has been made");
        StripDies coils = new StripDies();
        for (int call = 1; call <= 512; call++) {
            due("slit, call " + call, coils.slit(2000 - call, 1, 0, 0, 1), 2000 - call);
        }
        sentence(15, "An object is used for at most 512 calls after it has been made");
        StripDies heap = cutsAt(5, 5, 5, 5, 5, 5, 5, 5, 5, 5);
        for (int call = 21; call <= 512; call += 2) {
            int which = call / 2 % 2;
            due("a law, call " + call, which == 0 ? heap.ahead(9, 0) : heap.free(9, 0), 1);
            due("station, call " + call, heap.station(0), which == 0 ? 1 : 0);
        }
        sentence(21, "An object is used for at most 512 calls after it has been made");
        StripDies sheets = new StripDies();
        for (int call = 1; call <= 512; call++) {
            due("sheet, call " + call, sheets.sheet(call % 4, call % 3, 64), 1);
        }
    }
}
