import java.lang.reflect.InvocationTargetException;
import java.lang.reflect.Method;
import java.util.Arrays;
import java.util.LinkedHashSet;
import java.util.Set;

/**
 * "Refusals, the first that fits, in the order told at each act: BAD .. (a number not as told, no such
 * thing), ..": each call, in three states, with each of its numbers at, and just beyond, the first and the
 * last that is told, in every combination. BAD is due if one of them is beyond, and only then; it changes
 * nothing, so it leaves the latest FINDING, too.
 */
public final class ArgumentEdgesTest extends Checks {
    /** As many FIGURES as there are; any int; any int up to 60. */
    private static final int[] FIGURE = {}, ANY = {LEAST, MOST}, UP_TO_60 = {LEAST, 60};
    private static final int[] TEXT = {0, 2}, STEP = {0, 19}, CELL = {0, 31}, TWO = {0, 1}, THREE = {0, 2}, FOUR = {0, 3};
    private static final int[] SHEET = {0, 3}, FORM = {0, 2}, ITEM = {NONE, 1};
    private static final State[] STATES = {ShadowTheatre::new, Checks::rich, Checks::full};
    private static final int LATEST = 5;

    public static void main(String[] args) {
        runAll(ArgumentEdgesTest.class);
    }

    private static int[] values(int[] range) {
        Set<Integer> all = new LinkedHashSet<>(Arrays.asList(LEAST, range[0], range[1], MOST));
        if (range[0] != LEAST) all.add(range[0] - 1);
        if (range[1] != MOST) all.add(range[1] + 1);
        if (range == ANY || range == UP_TO_60) all.addAll(Arrays.asList(-1, 0));
        return all.stream().mapToInt(v -> v).toArray();
    }

    private static Method method(String name) {
        for (Method m : ShadowTheatre.class.getDeclaredMethods()) if (m.getName().equals(name)) return m;
        throw new IllegalStateException("no " + name);
    }

    private static void edges(String name, int[]... told) {
        for (State state : STATES) {
            int last = state.make().count(0) - 1;
            int[][] ranges = told.clone();
            for (int i = 0; i < ranges.length; i++) if (ranges[i] == FIGURE) ranges[i] = new int[] {0, last};
            combine(method(name), state, ranges, new Object[ranges.length], 0, false);
        }
    }

    private static void combine(Method m, State state, int[][] ranges, Object[] with, int next, boolean beyond) {
        if (next == ranges.length) {
            call(m, state, with, beyond);
            return;
        }
        for (int v : values(ranges[next])) {
            with[next] = v;
            combine(m, state, ranges, with, next + 1, beyond || v < ranges[next][0] || v > ranges[next][1]);
        }
    }

    private static void call(Method m, State state, Object[] with, boolean beyond) {
        ShadowTheatre x = state.make();
        x.sheet(0, 0, -1);
        long got = answer(m, x, with);
        if (m.getName().equals("get")) {
            // here BAD and the FINDINGS answer alike
            if (beyond) is(got, LEAST);
            int refusal = got == LEAST && x.count(8) == LATEST ? 1 : 0;
            is(refusal, beyond ? 1 : 0);
            return;
        }
        long bad = m.getReturnType() == long.class ? BAD_LONG : BAD;
        is(got == bad ? 1 : 0, beyond ? 1 : 0);
        if (beyond) is(x.count(8), LATEST);
    }

    private static long answer(Method m, ShadowTheatre x, Object[] with) {
        try {
            return ((Number) m.invoke(x, with)).longValue();
        } catch (InvocationTargetException | IllegalAccessException e) {
            throw new IllegalStateException(m.getName() + Arrays.toString(with), e);
        }
    }

    static void type() { edges("type", TEXT, new int[] {0, 255}); }

    static void wipe() { edges("wipe", TEXT); }

    static void undo() { edges("undo", TEXT); }

    static void fault() { edges("fault", TEXT); }

    static void figure() { edges("figure", FIGURE, new int[] {0, 9}); }

    static void cue() { edges("cue", STEP, TWO); }

    static void picture() { edges("picture", CELL); }

    static void lamp() { edges("lamp", new int[] {0, 31}); }

    static void flicker() { edges("flicker", STEP); }

    static void read() { edges("read", SHEET); }

    static void light() { edges("light", STEP, CELL); }

    static void covers() { edges("covers", STEP, CELL); }

    static void at() { edges("at", STEP, FIGURE, FOUR); }

    static void screen() { edges("screen", STEP, TWO); }

    static void shown() { edges("shown", TWO); }

    static void touched() { edges("touched", THREE); }

    static void hang() { edges("hang", FIGURE, STEP, THREE); }

    static void shift() { edges("shift", STEP, TWO); }

    static void more() { edges("more", ITEM); }

    static void leave() { edges("leave", STEP, ITEM); }

    static void seen() { edges("seen", STEP, CELL, new int[] {0, 7}); }

    static void was() { edges("was", FIGURE, TWO); }

    static void ask() { edges("ask", FIGURE); }

    static void stumble() { edges("stumble", new int[] {0, 16}, new int[] {0, 9}, STEP, TWO); }

    static void play() { edges("play", ANY, new int[] {0, 20}, TWO); }

    static void sheet() { edges("sheet", SHEET, FORM, UP_TO_60); }

    static void lose() { edges("lose", SHEET); }

    static void lay() { edges("lay", SHEET, FORM, ANY, ANY); }

    static void get() { edges("get", SHEET, FORM, ANY); }

    static void copy() { edges("copy", SHEET, ANY, SHEET, ANY, ANY); }

    static void write() { edges("write", STEP, SHEET); }

    static void count() { edges("count", new int[] {0, 8}); }
}
