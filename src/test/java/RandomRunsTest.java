import java.util.ArrayList;
import java.util.Arrays;
import java.util.List;
import java.util.Random;
import java.util.function.LongSupplier;

/** Runs of calls drawn by fixed seeds, the class held against PlainTheatre call by call. */
public final class RandomRunsTest {
    /** No object is asked more than 512 times: a change may still take some forty calls. */
    private static final int RUNS = 600, CALLS = 465;

    private final Random lots;
    private final ShadowTheatre x = new ShadowTheatre();
    private final PlainTheatre y = new PlainTheatre();
    private final StringBuilder log = new StringBuilder();
    private int calls = 0;
    private int wrong = 0;

    private RandomRunsTest(long seed) {
        lots = new Random(seed);
    }

    public static void main(String[] args) {
        int wrong = 0;
        for (int run = 0; run < RUNS && wrong < 5; run++) {
            RandomRunsTest test = new RandomRunsTest(run);
            test.run();
            wrong += test.wrong;
            if (test.wrong > 0) System.out.println("run " + run + ":" + test.log);
        }
        System.out.println(wrong == 0 ? "the class answers as PlainTheatre" : wrong + " runs differ");
        if (wrong != 0) System.exit(1);
    }

    private void run() {
        String figures = figures();
        put(0, figures);
        put(1, cues());
        int lamp = lots.nextInt(32);
        due("lamp(" + lamp + ")", () -> x.lamp(lamp), () -> y.lamp(lamp));
        put(2, picture());
        for (int i = lots.nextInt(3); i > 0; i--) flicker();
        for (int i = lots.nextInt(4); i > 0; i--) seen();
        boolean dear = lots.nextInt(8) == 0;
        while (calls < CALLS && wrong == 0) {
            if (lots.nextInt(12) == 0) change();
            ask(dear && lots.nextInt(100) == 0 ? 99 : lots.nextInt(26));
        }
    }

    private void due(String call, LongSupplier mine, LongSupplier plain) {
        if (wrong > 0) return;
        calls++;
        long got = mine.getAsLong();
        long want = plain.getAsLong();
        log.append(' ').append(call);
        if (got != want) {
            wrong++;
            System.out.println(call + " answered " + got + ", PlainTheatre " + want);
        }
    }

    // ---- what is told

    private String figures() {
        int n = lots.nextInt(10) == 0 ? 0 : 1 + lots.nextInt(lots.nextBoolean() ? 3 : 8);
        List<String> all = new ArrayList<>();
        for (int i = 0; i < n; i++) {
            StringBuilder f = new StringBuilder().append(1 + lots.nextInt(8));
            int place = lots.nextBoolean() ? lots.nextInt(32) : 8 + lots.nextInt(16);
            f.append(place / 10).append(place % 10).append("krgb".charAt(lots.nextInt(4)));
            for (int m = 1 + lots.nextInt(6); m > 0; m--) f.append(lots.nextInt(4) == 0 ? '.' : '#');
            all.add(f.toString());
        }
        return String.join(";", all);
    }

    private String cues() {
        int n = lots.nextInt(21);
        int figs = Math.max(1, y.count(0) + (lots.nextInt(4) == 0 ? 1 : 0));
        StringBuilder all = new StringBuilder();
        for (int i = 0; i < n; i++) {
            if (lots.nextInt(5) == 0) all.append("..");
            else all.append((char) ('a' + lots.nextInt(Math.min(8, figs)))).append("lrfb".charAt(lots.nextInt(4)));
        }
        return all.toString();
    }

    /** What is told, changed a little, so that a PICTURE or a sight drawn of it is sometimes to be had. */
    private PlainTheatre.Play near() {
        PlainTheatre.Play p = y.play();
        List<String> cues = new ArrayList<>(p.cues());
        for (int i = lots.nextInt(3); i > 0; i--) cues.set(lots.nextInt(20), "..");
        int figs = p.figs().size();
        for (int i = lots.nextInt(3); i > 0 && figs > 0; i--) {
            cues.set(19 - i, "" + (char) ('a' + lots.nextInt(figs)) + "lrfb".charAt(lots.nextInt(4)));
        }
        p = new PlainTheatre.Play(p.figs(), cues, lots.nextInt(4) == 0 ? lots.nextInt(32) : p.lamp());
        for (int i = lots.nextInt(3); i > 0 && figs > 0; i--) {
            PlainTheatre.Fig f = p.figs().get(lots.nextInt(figs));
            if (f == null) continue;
            PlainTheatre.Fig other = lots.nextBoolean() ? null : lots.nextBoolean()
                    ? new PlainTheatre.Fig(1 + lots.nextInt(8), f.place(), f.colour(), f.marks())
                    : new PlainTheatre.Fig(f.depth(), f.place(), "krgb".charAt(lots.nextInt(4)), f.marks());
            p = PlainTheatre.with(p, p.figs().indexOf(f), other);
        }
        return p;
    }

    private String picture() {
        PlainTheatre.Play p = near();
        int step = lots.nextInt(3) == 0 ? lots.nextInt(20) : 19;
        int gaps = 1 + lots.nextInt(30);
        StringBuilder all = new StringBuilder();
        for (int c = 0; c < 32; c++) {
            all.append(lots.nextInt(gaps) < 3 ? (char) ('0' + y.lightOf(p, step, c)) : '.');
        }
        return all.toString();
    }

    private void put(int text, String all) {
        due("wipe(" + text + ")", () -> x.wipe(text), () -> y.wipe(text));
        for (char b : all.toCharArray()) type(text, b);
    }

    private void type(int text, int b) {
        due("type(" + text + ", " + b + ")", () -> x.type(text, b), () -> y.type(text, b));
    }

    private void flicker() {
        int step = lots.nextInt(22) - 1;
        due("flicker(" + step + ")", () -> x.flicker(step), () -> y.flicker(step));
    }

    private void seen() {
        int step = lots.nextInt(20), cell = lots.nextInt(32);
        int light = lots.nextInt(12) == 0 ? lots.nextInt(10) - 1 : y.lightOf(near(), step, cell);
        due("seen(" + step + ", " + cell + ", " + light + ")", () -> x.seen(step, cell, light), () -> y.seen(step, cell, light));
    }

    private void change() {
        int text = lots.nextInt(3), v = lots.nextInt(34) - 1;
        switch (lots.nextInt(13)) {
            case 0 -> due("undo(" + text + ")", () -> x.undo(text), () -> y.undo(text));
            case 1 -> type(text, "0123;.#krgbalf7".charAt(lots.nextInt(15)));
            case 2 -> type(text, lots.nextInt(300) - 20);
            case 3 -> due("lamp(" + v + ")", () -> x.lamp(v), () -> y.lamp(v));
            case 4 -> flicker();
            case 5, 6 -> due("back()", x::back, y::back);
            case 7, 8 -> seen();
            case 9 -> due("forget()", x::forget, y::forget);
            case 10 -> mend(text);
            case 11 -> put(2, picture());
            default -> put(1, cues());
        }
    }

    /** Undoes bytes until the text is well again. */
    private void mend(int text) {
        for (int i = 0; i < 10 && y.fault(text) != PlainTheatre.NONE; i++) {
            due("undo(" + text + ")", () -> x.undo(text), () -> y.undo(text));
        }
    }

    // ---- what is asked

    private int near(int end) {
        return lots.nextInt(25) == 0 ? (lots.nextBoolean() ? -1 : end) : lots.nextInt(end);
    }

    private void ask(int which) {
        int step = lots.nextInt(3) == 0 ? 19 : near(20), cell = near(32), text = near(3);
        int f = near(lots.nextInt(4) == 0 ? 8 : Math.max(1, y.count(0)));
        int two = near(2), three = near(3), four = near(4), i = lots.nextInt(3) - 1;
        switch (which) {
            case 0 -> due("fault(" + text + ")", () -> x.fault(text), () -> y.fault(text));
            case 1 -> {
                int what = near(10);
                due("figure(" + f + ", " + what + ")", () -> x.figure(f, what), () -> y.figure(f, what));
            }
            case 2 -> due("cue(" + step + ", " + two + ")", () -> x.cue(step, two), () -> y.cue(step, two));
            case 3 -> due("picture(" + cell + ")", () -> x.picture(cell), () -> y.picture(cell));
            case 4 -> due("light(" + step + ", " + cell + ")", () -> x.light(step, cell), () -> y.light(step, cell));
            case 5 -> due("covers(" + step + ", " + cell + ")", () -> x.covers(step, cell), () -> y.covers(step, cell));
            case 6 -> due("at(" + step + ", " + f + ", " + four + ")", () -> x.at(step, f, four), () -> y.at(step, f, four));
            case 7 -> due("screen(" + step + ", " + two + ")", () -> x.screen(step, two), () -> y.screen(step, two));
            case 8 -> due("shown(" + two + ")", () -> x.shown(two), () -> y.shown(two));
            case 9 -> due("touched(" + three + ")", () -> x.touched(three), () -> y.touched(three));
            case 10 -> due("darkest()", x::darkest, y::darkest);
            case 11 -> hang(f, step, three);
            case 12 -> due("shift(" + step + ", " + two + ")", () -> x.shift(step, two), () -> y.shift(step, two));
            case 13 -> more(i);
            case 14 -> due("leave(" + step + ", " + i + ")", () -> x.leave(step, i), () -> y.leave(step, i));
            case 15 -> due("never()", x::never, y::never);
            case 16 -> due("was(" + f + ", " + two + ")", () -> x.was(f, two), () -> y.was(f, two));
            case 17 -> due("ask(" + f + ")", () -> x.ask(f), () -> y.ask(f));
            case 18 -> stumble(step, two);
            case 19 -> {
                int seed = lots.nextInt(), n = near(21);
                due("play(" + seed + ", " + n + ", " + two + ")", () -> x.play(seed, n, two), () -> y.play(seed, n, two));
            }
            case 20, 21, 22, 23, 24 -> sheets(which - 20, step);
            case 25 -> {
                int what = near(9);
                due("count(" + what + ")", () -> x.count(what), () -> y.count(what));
            }
            default -> due("digest()", x::digest, y::digest);
        }
    }

    /** The dear calls come more seldom, as PlainTheatre tries everything. */
    private void hang(int f, int step, int what) {
        if (lots.nextInt(4) == 0) due("hang(" + f + ", " + step + ", " + what + ")", () -> x.hang(f, step, what), () -> y.hang(f, step, what));
    }

    private void more(int i) {
        int which = lots.nextInt(25) == 0 ? 2 : i;
        if (lots.nextInt(4) == 0) due("more(" + which + ")", () -> x.more(which), () -> y.more(which));
    }

    private void stumble(int step, int what) {
        int c = near(17), last = lots.nextInt(20) == 0 ? near(10) : near(6);
        due("stumble(" + c + ", " + last + ", " + step + ", " + what + ")",
                () -> x.stumble(c, last, step, what), () -> y.stumble(c, last, step, what));
    }

    private void sheets(int which, int step) {
        int s = near(4), t = near(4), form = near(3), at = near(12), to = near(12);
        switch (which) {
            case 0 -> {
                int n = lots.nextInt(12) == 0 ? near(61) : near(14);
                due("sheet(" + s + ", " + form + ", " + n + ")", () -> x.sheet(s, form, n), () -> y.sheet(s, form, n));
            }
            case 1 -> {
                int v = lots.nextBoolean() ? lots.nextInt(22) - 1 : lots.nextInt();
                due("lay(" + Arrays.asList(s, form, at, v) + ")", () -> x.lay(s, form, at, v), () -> y.lay(s, form, at, v));
            }
            case 2 -> due("get(" + Arrays.asList(s, form, at) + ")", () -> x.get(s, form, at), () -> y.get(s, form, at));
            case 3 -> {
                int n = lots.nextInt(20) == 0 ? Integer.MAX_VALUE : near(7);
                due("copy(" + Arrays.asList(s, at, t, to, n) + ")", () -> x.copy(s, at, t, to, n), () -> y.copy(s, at, t, to, n));
            }
            default -> {
                int what = lots.nextInt(4);
                if (what == 0) due("lose(" + s + ")", () -> x.lose(s), () -> y.lose(s));
                else if (what == 1) due("read(" + s + ")", () -> x.read(s), () -> y.read(s));
                else due("write(" + step + ", " + s + ")", () -> x.write(step, s), () -> y.write(step, s));
            }
        }
    }
}
