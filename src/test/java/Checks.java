import java.lang.reflect.InvocationTargetException;
import java.lang.reflect.Method;
import java.lang.reflect.Modifier;
import java.util.ArrayList;
import java.util.Arrays;
import java.util.Comparator;
import java.util.List;
import java.util.function.ToLongFunction;

/**
 * What the tests have in common. A class of tests extends it; each of its static methods that takes
 * and answers nothing is a test of its own, named after what it holds, and run by runAll.
 */
abstract class Checks {
    static final int NONE = ShadowTheatre.NONE, BAD = ShadowTheatre.BAD;
    static final int NOT = ShadowTheatre.NOT, FULL = ShadowTheatre.FULL;
    static final int NULL = -11, INDEX = -12, CAST = -13, STORE = -14, SIZE = -15;
    static final int LEAST = Integer.MIN_VALUE, MOST = Integer.MAX_VALUE;
    static final long BAD_LONG = Long.MIN_VALUE + 2;
    static final int STEPS = 20, CELLS = 32;
    static final int[] ROOM = {87, 40, 32};
    /** A well text of each kind as long as it may be. */
    static final String[] FULL_TEXT = {
        "831k######;800r.#.#.#;415g#.#.#.;116b######;229k.#####;507r......;607g#....#;731b######",
        "alarafabblbrbfbbclcrcfcbdldrdfdbhlhrhfhb", "01234567.7777777000000001.1.1.16"};

    private static String about = "";
    private static int asked = 0;
    private static int wrong = 0;

    // ---- running

    static void runAll(Class<?> tests) {
        Method[] all = tests.getDeclaredMethods();
        Arrays.sort(all, Comparator.comparing(Method::getName));
        int run = 0;
        for (Method m : all) {
            boolean isTest = Modifier.isStatic(m.getModifiers()) && m.getParameterCount() == 0
                    && m.getReturnType() == void.class && !m.isSynthetic();
            if (!isTest) continue;
            about(m.getName());
            int before = asked;
            invoke(m);
            if (asked == before) fail("asks nothing");
            run++;
        }
        System.out.println(tests.getName() + ": " + run + " tests");
        end();
    }

    private static void invoke(Method m) {
        try {
            m.setAccessible(true);
            m.invoke(null);
        } catch (InvocationTargetException e) {
            fail("threw " + e.getCause());
        } catch (IllegalAccessException e) {
            fail(e.toString());
        }
    }

    static void end() {
        System.out.println(asked + " answers asked, " + wrong + " not as due");
        if (wrong != 0) System.exit(1);
    }

    static void about(String what) {
        about = what;
    }

    private static void fail(String how) {
        wrong++;
        System.out.println(about + ": " + how);
    }

    static void is(long got, long want) {
        asked++;
        if (got != want) fail("line " + lineOfTest() + ": got " + got + ", due is " + want);
    }

    /** In the test itself, not in what it calls. */
    private static int lineOfTest() {
        int line = 0;
        for (StackTraceElement e : new Throwable().getStackTrace()) {
            if (e.getMethodName().equals(about)) return e.getLineNumber();
            if (line == 0 && !e.getClassName().equals("Checks")) line = e.getLineNumber();
        }
        return line;
    }

    // ---- making

    static void put(ShadowTheatre x, int text, String bytes) {
        x.wipe(text);
        more(x, text, bytes);
    }

    static void more(ShadowTheatre x, int text, String bytes) {
        for (int i = 0; i < bytes.length(); i++) x.type(text, bytes.charAt(i));
    }

    static ShadowTheatre told(String figures, String cues, String picture) {
        ShadowTheatre x = new ShadowTheatre();
        more(x, 0, figures);
        more(x, 1, cues);
        more(x, 2, picture);
        return x;
    }

    static ShadowTheatre figures(String figures) {
        return told(figures, "", "");
    }

    static String times(int n, String part) {
        return part.repeat(n);
    }

    static void flickers(ShadowTheatre x, int... steps) {
        for (int step : steps) x.flicker(step);
    }

    /** A SHEET of ints with these items. */
    static void row(ShadowTheatre x, int s, int... items) {
        x.sheet(s, 2, items.length);
        for (int i = 0; i < items.length; i++) x.lay(s, 2, i, items[i]);
    }

    static void rowIs(ShadowTheatre x, int s, int... want) {
        for (int i = 0; i < want.length; i++) is(x.get(s, 2, i), want[i]);
        is(x.get(s, 2, want.length), LEAST);
    }

    /** Something in every corner; SHEET 0 is of bytes, 1 of shorts, 2 of ints, 3 is LOST; the latest FINDING is 2. */
    static ShadowTheatre rich() {
        ShadowTheatre x = told("416k##.#;614r###", "alarbl..", "......0.....4");
        x.lamp(11);
        flickers(x, 2, 5);
        x.seen(3, 14, 4);
        x.seen(0, 20, 7);
        for (int form = 0; form < 3; form++) {
            x.sheet(form, form, 5);
            for (int i = 0; i < 5; i++) x.lay(form, form, i, 10 * form + i);
        }
        x.get(0, 0, 9);
        return x;
    }

    /** All texts, FLICKERS and SEEN are full; SHEETS and the latest FINDING as in rich. */
    static ShadowTheatre full() {
        ShadowTheatre x = rich();
        for (int text = 0; text < 3; text++) put(x, text, FULL_TEXT[text]);
        for (int n = x.count(6); n < 8; n++) x.flicker(n);
        for (int n = x.count(7); n < 8; n++) x.seen(n, n, 7);
        return x;
    }

    // ---- looking

    /** The LIGHTS of all CELLS, as a PICTURE tells them. */
    static String lights(ShadowTheatre x, int step) {
        StringBuilder all = new StringBuilder();
        for (int cell = 0; cell < CELLS; cell++) all.append(x.light(step, cell));
        return all.toString();
    }

    /** All that an object holds: it is undone piece by piece, so that what lies behind comes to light, too. */
    static List<Long> laidBare(ShadowTheatre x) {
        List<Long> all = new ArrayList<>();
        all.add((long) x.count(8));
        all.add(x.digest());
        all.add((long) x.lamp(9));
        for (int s = 0; s < 4; s++) {
            for (int form = 0; form < 3; form++) {
                for (int i = 0; i < 6; i++) all.add((long) x.get(s, form, i));
                all.add((long) x.count(8));
            }
            all.add((long) x.lose(s));
        }
        for (int left = x.count(6); left > 0; left--) {
            all.add((long) x.back());
            for (int step : new int[] {2, 4, 5, 7}) all.add((long) x.light(step, 31));
        }
        for (int text = 0; text < 3; text++) {
            for (int n = 0; n < 6; n++) {
                all.add((long) x.undo(text));
                all.add((long) x.fault(text));
            }
            all.add((long) x.wipe(text));
        }
        all.add((long) x.forget());
        return all;
    }

    interface State {
        ShadowTheatre make();
    }

    /** The call answers want, leaves finding as count(8), and all else is as if it had not been made. */
    static void changesNothing(State state, ToLongFunction<ShadowTheatre> call, long want, int finding) {
        ShadowTheatre x = state.make();
        is(call.applyAsLong(x), want);
        is(x.count(8), finding);
        x.sheet(0, 0, -1);
        ShadowTheatre twin = state.make();
        twin.sheet(0, 0, -1);
        List<Long> got = laidBare(x);
        List<Long> due = laidBare(twin);
        is(got.size(), due.size());
        for (int i = 0; i < got.size() && i < due.size(); i++) {
            if (!got.get(i).equals(due.get(i))) {
                fail("line " + lineOfTest() + ": something has changed, seen at " + i);
                return;
            }
        }
    }

    static void refused(ToLongFunction<ShadowTheatre> call, long want, int finding) {
        changesNothing(Checks::rich, call, want, finding);
    }

    /** A FINDING keeps no refusal behind: BAD leaves the latest FINDING of rich, which is 2. */
    static void bad(ToLongFunction<ShadowTheatre> call) {
        refused(call, BAD, 2);
    }

    static void found(ToLongFunction<ShadowTheatre> call, int answer) {
        refused(call, answer, -10 - answer);
    }
}
