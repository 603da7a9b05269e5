import java.math.BigInteger;
import java.util.ArrayList;
import java.util.Collections;
import java.util.List;
import java.util.function.ToIntFunction;
import java.util.regex.Matcher;
import java.util.regex.Pattern;

/**
 * The document once more, word by word and by trying everything: slow, and made from other parts
 * than the class, so that the two rarely err alike. RandomRunsTest holds the class against it.
 */
final class PlainTheatre {
    static final int NONE = -1, BAD = -2, NOT = -3, FULL = -4;

    record Fig(int depth, int place, char colour, String marks) { }

    /** What is played: the FIGURES, the CUES, THE LAMP; those that are null are not there. */
    record Play(List<Fig> figs, List<String> cues, int lamp) { }

    private static final String FIG = "[1-8]([0-2][0-9]|3[01])[krgb][#.]{1,6}";
    private static final Pattern[] WELL = {
        Pattern.compile("(" + FIG + "(;" + FIG + "){0,7})?"),
        Pattern.compile("([a-h][lrfb]|\\.\\.){0,20}"),
        Pattern.compile("[0-7.]{0,32}")};
    /** A ninth FIGURE cannot go on at its first byte: the ; ahead of it still can. */
    private static final Pattern[] BEGUN = {
        Pattern.compile("(" + FIG + "(;" + FIG + "){0,7};?)?"), WELL[1], WELL[2]};
    private static final int[] ROOM = {87, 40, 32};

    final StringBuilder[] texts = {new StringBuilder(), new StringBuilder(), new StringBuilder()};
    final List<Integer> flickers = new ArrayList<>();
    final List<int[]> sights = new ArrayList<>();
    final long[][] rows = new long[4][];
    final int[] forms = new int[4];
    /** The texts of which the FAULT is known, as to find it takes long. */
    private final String[] judged = new String[3];
    private final int[] faults = new int[3];
    int lamp = 16;
    int finding = 0;

    // ---- what the texts say

    int fault(int text) {
        if (text < 0 || text > 2) return BAD;
        String all = texts[text].toString();
        if (!all.equals(judged[text])) {
            judged[text] = all;
            faults[text] = judge(text, all);
        }
        return faults[text];
    }

    private static int judge(int text, String all) {
        for (int i = 1; i <= all.length(); i++) {
            Matcher m = BEGUN[text].matcher(all.substring(0, i));
            if (!m.matches() && !m.hitEnd()) return i - 1;
        }
        return WELL[text].matcher(all).matches() ? NONE : all.length();
    }

    private String good(int text) {
        return fault(text) == NONE ? texts[text].toString() : "";
    }

    List<Fig> figs() {
        List<Fig> all = new ArrayList<>();
        if (good(0).isEmpty()) return all;
        for (String f : good(0).split(";")) {
            all.add(new Fig(f.charAt(0) - '0', Integer.parseInt(f.substring(1, 3)), f.charAt(3), f.substring(4)));
        }
        return all;
    }

    /** One for each STEP: ".." where none is told. */
    List<String> cues() {
        List<String> all = new ArrayList<>();
        String text = good(1);
        for (int s = 0; s < 20; s++) all.add(2 * s < text.length() ? text.substring(2 * s, 2 * s + 2) : "..");
        return all;
    }

    private char told(int cell) {
        String text = good(2);
        return cell < text.length() ? text.charAt(cell) : '.';
    }

    Play play() {
        return new Play(figs(), cues(), lamp);
    }

    // ---- what is on the screen

    static int[] where(Play p, int figure, int lastCue) {
        Fig f = p.figs.get(figure);
        int d = f.depth, w = f.place;
        for (int s = 0; s <= lastCue; s++) {
            if (p.cues.get(s).charAt(0) != 'a' + figure) continue;
            switch (p.cues.get(s).charAt(1)) {
                case 'l' -> w = w == 0 ? 0 : w - 1;
                case 'r' -> w = w == 31 ? 31 : w + 1;
                case 'f' -> d = d == 1 ? 1 : d - 1;
                default -> d = d == 8 ? 8 : d + 1;
            }
        }
        return new int[] {d, w};
    }

    static boolean covers(Play p, int figure, int lastCue, int cell) {
        if (p.figs.get(figure) == null) return false;
        int[] at = where(p, figure, lastCue);
        int through = (8 * p.lamp + 4 + at[0] * (cell - p.lamp)) / 8;
        String marks = p.figs.get(figure).marks;
        for (int j = 0; j < marks.length(); j++) {
            if (at[1] + j == through && marks.charAt(j) == '#') return true;
        }
        return false;
    }

    int lightOf(Play p, int step, int lastCue, int cell) {
        if (flickers.contains(step)) return 0;
        int light = 7;
        for (int f = 0; f < p.figs.size(); f++) {
            if (!covers(p, f, lastCue, cell)) continue;
            light &= switch (p.figs.get(f).colour) {
                case 'r' -> 4;
                case 'g' -> 2;
                case 'b' -> 1;
                default -> 0;
            };
        }
        return light;
    }

    int lightOf(Play p, int step, int cell) {
        return lightOf(p, step, step, cell);
    }

    int falseBy(Play p, int step, int lastCue) {
        int n = 0;
        for (int c = 0; c < 32; c++) if (told(c) != '.' && told(c) - '0' != lightOf(p, step, lastCue, c)) n++;
        return n;
    }

    boolean isShown(Play p, int step, int lastCue) {
        return count(2) > 0 && falseBy(p, step, lastCue) == 0;
    }

    private int darkIn(Play p, int step) {
        int n = 0;
        for (int c = 0; c < 32; c++) if (lightOf(p, step, c) == 0) n++;
        return n;
    }

    // ---- figures, cues, the picture, the lamp

    int type(int text, int b) {
        if (text < 0 || text > 2 || b < 0 || b > 255) return BAD;
        if (texts[text].length() == ROOM[text]) return FULL;
        return texts[text].append((char) b).length();
    }

    int wipe(int text) {
        if (text < 0 || text > 2) return BAD;
        int had = texts[text].length();
        texts[text].setLength(0);
        return had;
    }

    int undo(int text) {
        if (text < 0 || text > 2) return BAD;
        int had = texts[text].length();
        if (had == 0) return NOT;
        texts[text].setLength(had - 1);
        return had - 1;
    }

    int figure(int figure, int what) {
        if (figure < 0 || figure >= figs().size() || what < 0 || what > 9) return BAD;
        Fig f = figs().get(figure);
        if (what == 0) return f.depth;
        if (what == 1) return f.place;
        if (what == 2) return "krgb".indexOf(f.colour);
        if (what == 3) return f.marks.length();
        if (what - 4 >= f.marks.length()) return NONE;
        return f.marks.charAt(what - 4) == '#' ? 1 : 0;
    }

    int cue(int step, int what) {
        if (step < 0 || step > 19 || what < 0 || what > 1) return BAD;
        String cue = cues().get(step);
        if (cue.equals("..")) return NONE;
        return what == 0 ? cue.charAt(0) - 'a' : "lrfb".indexOf(cue.charAt(1));
    }

    int picture(int cell) {
        if (cell < 0 || cell > 31) return BAD;
        return told(cell) == '.' ? NONE : told(cell) - '0';
    }

    int lamp(int v) {
        if (v < 0 || v > 31) return BAD;
        int was = lamp;
        lamp = v;
        return was;
    }

    int flicker(int step) {
        if (step < 0 || step > 19) return BAD;
        if (flickers.size() == 8) return FULL;
        flickers.add(step);
        return flickers.size();
    }

    int back() {
        if (flickers.isEmpty()) return NOT;
        flickers.remove(flickers.size() - 1);
        return flickers.size();
    }

    int read(int s) {
        if (s < 0 || s > 3) return BAD;
        if (rows[s] == null) return find(1);
        int came = 0;
        for (long item : rows[s]) {
            if (item < 0 || item > 19 || flickers.size() == 8) break;
            flickers.add((int) item);
            came++;
        }
        return came;
    }

    // ---- steps

    int light(int step, int cell) {
        if (step < 0 || step > 19 || cell < 0 || cell > 31) return BAD;
        return lightOf(play(), step, cell);
    }

    int covers(int step, int cell) {
        if (step < 0 || step > 19 || cell < 0 || cell > 31) return BAD;
        int bits = 0;
        Play p = play();
        for (int f = 0; f < p.figs.size(); f++) if (covers(p, f, step, cell)) bits += 1 << f;
        return bits;
    }

    int at(int step, int figure, int what) {
        if (step < 0 || step > 19 || figure < 0 || figure >= figs().size() || what < 0 || what > 3) return BAD;
        Play p = play();
        if (what < 2) return where(p, figure, step)[what];
        List<Integer> cells = new ArrayList<>();
        for (int c = 0; c < 32; c++) if (covers(p, figure, step, c)) cells.add(c);
        if (what == 2) return cells.size();
        return cells.isEmpty() ? NONE : cells.get(0);
    }

    int screen(int step, int what) {
        if (step < 0 || step > 19 || what < 0 || what > 1) return BAD;
        return what == 0 ? falseBy(play(), step, step) : darkIn(play(), step);
    }

    int shown(int what) {
        if (what < 0 || what > 1) return BAD;
        List<Integer> steps = new ArrayList<>();
        for (int s = 0; s < 20; s++) if (isShown(play(), s, s)) steps.add(s);
        return what == 1 ? steps.size() : steps.isEmpty() ? NONE : steps.get(0);
    }

    private boolean touch(Play p, int step, int a, int b) {
        int[] x = where(p, a, step), y = where(p, b, step);
        for (int i = 0; i < p.figs.get(a).marks.length(); i++) {
            for (int j = 0; j < p.figs.get(b).marks.length(); j++) {
                if (x[0] == y[0] && x[1] + i == y[1] + j) return true;
            }
        }
        return false;
    }

    int touched(int what) {
        if (what < 0 || what > 2) return BAD;
        Play p = play();
        for (int s = 0; s < 20; s++) {
            for (int a = 0; a < p.figs.size(); a++) {
                for (int b = 0; b < p.figs.size(); b++) {
                    if (a != b && touch(p, s, a, b)) return new int[] {s, a, b}[what];
                }
            }
        }
        return NONE;
    }

    int darkest() {
        int best = NONE;
        for (int s = 19; s >= 0; s--) {
            if (flickers.contains(s)) continue;
            if (best == NONE || darkIn(play(), s) >= darkIn(play(), best)) best = s;
        }
        return best;
    }

    // ---- plans

    static Play with(Play p, int figure, Fig other) {
        List<Fig> figs = new ArrayList<>(p.figs);
        figs.set(figure, other);
        return new Play(figs, p.cues, p.lamp);
    }

    int hang(int figure, int step, int what) {
        if (figure < 0 || figure >= figs().size() || step < 0 || step > 19 || what < 0 || what > 2) return BAD;
        Play p = play();
        Fig f = p.figs.get(figure);
        int[] best = {0, 0, 99};
        for (int d = 1; d <= 8; d++) {
            for (int w = 0; w < 32; w++) {
                int n = falseBy(with(p, figure, new Fig(d, w, f.colour, f.marks)), step, step);
                if (n < best[2]) best = new int[] {d, w, n};
            }
        }
        return best[what];
    }

    int shift(int step, int what) {
        if (step < 0 || step > 19 || what < 0 || what > 1) return BAD;
        int[] best = {0, 99};
        for (int v = 0; v < 32; v++) {
            int n = falseBy(new Play(figs(), cues(), v), step, step);
            if (n < best[1]) best = new int[] {v, n};
        }
        return best[what];
    }

    private boolean shownBehind(int... more) {
        List<String> cues = cues();
        for (int m : more) cues.add("" + (char) ('a' + m / 4) + "lrfb".charAt(m % 4));
        return isShown(new Play(figs(), cues, lamp), 19, cues.size() - 1);
    }

    private int[] fewestMore() {
        if (shownBehind()) return new int[] {0, NONE, NONE};
        int n = 4 * figs().size();
        for (int a = 0; a < n; a++) if (shownBehind(a)) return new int[] {1, a, NONE};
        for (int a = 0; a < n; a++) {
            for (int b = 0; b < n; b++) if (shownBehind(a, b)) return new int[] {2, a, b};
        }
        return new int[] {NONE, NONE, NONE};
    }

    int more(int i) {
        return i < -1 || i > 1 ? BAD : fewestMore()[i + 1];
    }

    private boolean shownWithout(int step, int... left) {
        Play p = play();
        for (int f : left) p = with(p, f, null);
        return isShown(p, step, step);
    }

    private int[] fewestLeft(int step) {
        if (shownWithout(step)) return new int[] {0, NONE, NONE};
        int n = figs().size();
        for (int a = 0; a < n; a++) if (shownWithout(step, a)) return new int[] {1, a, NONE};
        for (int a = 0; a < n; a++) {
            for (int b = a + 1; b < n; b++) if (shownWithout(step, a, b)) return new int[] {2, a, b};
        }
        return new int[] {NONE, NONE, NONE};
    }

    int leave(int step, int i) {
        return step < 0 || step > 19 || i < -1 || i > 1 ? BAD : fewestLeft(step)[i + 1];
    }

    // ---- seen, stumbles, plays

    int seen(int step, int cell, int light) {
        if (step < 0 || step > 19 || cell < 0 || cell > 31 || light < 0 || light > 7) return BAD;
        if (sights.size() == 8) return FULL;
        sights.add(new int[] {step, cell, light});
        return sights.size();
    }

    int forget() {
        int had = sights.size();
        sights.clear();
        return had;
    }

    private boolean comesOut(Play p) {
        for (int[] s : sights) if (lightOf(p, s[0], s[1]) != s[2]) return false;
        return true;
    }

    int never() {
        int bits = 0;
        for (int s = 0; s < 20; s++) {
            List<String> cues = cues();
            if (cues.set(s, "..").equals("..")) continue;
            if (comesOut(new Play(figs(), cues, lamp))) bits += 1 << s;
        }
        return bits;
    }

    private Play hungAt(int figure, int depth) {
        Fig f = figs().get(figure);
        return with(play(), figure, new Fig(depth, f.place, f.colour, f.marks));
    }

    int was(int figure, int what) {
        if (figure < 0 || figure >= figs().size() || what < 0 || what > 1) return BAD;
        Fig f = figs().get(figure);
        int bits = 0;
        if (what == 0) {
            for (int c = 0; c < 4; c++) {
                Fig painted = new Fig(f.depth, f.place, "krgb".charAt(c), f.marks);
                if (comesOut(with(play(), figure, painted))) bits += 1 << c;
            }
        } else {
            for (int d = 1; d <= 8; d++) if (comesOut(hungAt(figure, d))) bits += 1 << d;
        }
        return bits;
    }

    int ask(int figure) {
        if (figure < 0 || figure >= figs().size()) return BAD;
        int depths = was(figure, 1);
        ToIntFunction<Integer> greatest = cell -> {
            List<Integer> lights = new ArrayList<>();
            for (int d = 1; d <= 8; d++) {
                if ((depths >> d & 1) == 1) lights.add(lightOf(hungAt(figure, d), 19, cell));
            }
            int most = 0;
            for (int v = 0; v < 8; v++) most = Math.max(most, Collections.frequency(lights, v));
            return most;
        };
        int best = 0;
        for (int c = 1; c < 32; c++) if (greatest.applyAsInt(c) < greatest.applyAsInt(best)) best = c;
        return best;
    }

    long stumble(int c, int last, int step, int what) {
        if (c < 0 || c > 16 || last < 0 || last > 9 || step < 0 || step > 19 || what < 0 || what > 1) {
            return Long.MIN_VALUE + 2;
        }
        BigInteger above = BigInteger.ZERO, below = BigInteger.valueOf(16).pow(last + 1);
        for (int not = 0; not < 1 << last + 1; not++) {
            List<String> cues = cues();
            BigInteger ways = BigInteger.ONE;
            for (int s = 0; s <= last; s++) {
                boolean done = (not >> s & 1) == 0;
                if (!done) cues.set(s, "..");
                ways = ways.multiply(BigInteger.valueOf(done ? 16 - c : c));
            }
            if (ways.signum() != 0 && isShown(new Play(figs(), cues, lamp), step, step)) above = above.add(ways);
        }
        BigInteger common = above.gcd(below);
        return (what == 0 ? above : below).divide(common).longValueExact();
    }

    int play(int seed, int n, int what) {
        if (n < 0 || n > 20 || what < 0 || what > 1) return BAD;
        List<String> cues = new ArrayList<>();
        int figs = figs().size();
        long s = seed;
        for (int i = 0; i < 20; i++) {
            if (i >= n || figs == 0) {
                cues.add("..");
                continue;
            }
            s = 1103515245L * s + 12345 & 0xffffffffL;
            int who = (int) (s / 65536 % figs);
            s = 1103515245L * s + 12345 & 0xffffffffL;
            cues.add("" + (char) ('a' + who) + "lrfb".charAt((int) (s / 65536 % 4)));
        }
        Play p = new Play(figs(), cues, lamp);
        if (what == 1) return darkIn(p, 19);
        int shown = 0;
        for (int step = 0; step < 20; step++) if (isShown(p, step, step)) shown++;
        return shown;
    }

    // ---- sheets

    private int find(int number) {
        finding = number;
        return -10 - number;
    }

    private static long cut(int form, long v) {
        return form == 0 ? (byte) v : form == 1 ? (short) v : (int) v;
    }

    int sheet(int s, int form, int n) {
        if (s < 0 || s > 3 || form < 0 || form > 2 || n > 60) return BAD;
        if (n < 0) return find(5);
        rows[s] = new long[n];
        forms[s] = form;
        return n;
    }

    int lose(int s) {
        if (s < 0 || s > 3) return BAD;
        if (rows[s] == null) return find(1);
        int had = rows[s].length;
        rows[s] = null;
        return had;
    }

    private int itemFinding(int s, int form, int i) {
        if (rows[s] == null) return find(1);
        if (forms[s] != form) return find(3);
        if (i < 0 || i >= rows[s].length) return find(2);
        return 0;
    }

    int lay(int s, int form, int i, int v) {
        if (s < 0 || s > 3 || form < 0 || form > 2) return BAD;
        int wrong = itemFinding(s, form, i);
        if (wrong != 0) return wrong;
        rows[s][i] = cut(form, v);
        return 1;
    }

    int get(int s, int form, int i) {
        if (s < 0 || s > 3 || form < 0 || form > 2 || itemFinding(s, form, i) != 0) return Integer.MIN_VALUE;
        return (int) rows[s][i];
    }

    int copy(int s, int i, int t, int j, int n) {
        if (s < 0 || s > 3 || t < 0 || t > 3) return BAD;
        if (rows[s] == null || rows[t] == null) return find(1);
        if (forms[s] != forms[t]) return find(4);
        if (i < 0 || j < 0 || n < 0 || (long) i + n > rows[s].length || (long) j + n > rows[t].length) return find(2);
        long[] were = rows[s].clone();
        for (int k = 0; k < n; k++) rows[t][j + k] = were[i + k];
        return 1;
    }

    int write(int step, int s) {
        if (step < 0 || step > 19 || s < 0 || s > 3) return BAD;
        if (rows[s] == null) return find(1);
        int n = Math.min(32, rows[s].length);
        for (int c = 0; c < n; c++) rows[s][c] = cut(forms[s], light(step, c));
        return n;
    }

    int count(int what) {
        switch (what) {
            case 0: return figs().size();
            case 1: return 20 - Collections.frequency(cues(), "..");
            case 2: return good(2).replace(".", "").length();
            case 3: case 4: case 5: return texts[what - 3].length();
            case 6: return flickers.size();
            case 7: return sights.size();
            case 8: return finding;
            default: return BAD;
        }
    }

    long digest() {
        List<Long> all = new ArrayList<>();
        for (int w = 0; w < 8; w++) all.add((long) count(w));
        for (int t = 0; t < 3; t++) all.add((long) fault(t));
        for (int s = 0; s < 20; s++) {
            for (int v : new int[] {cue(s, 0), cue(s, 1), screen(s, 0), screen(s, 1)}) all.add((long) v);
        }
        for (int c = 0; c < 32; c++) {
            for (int v : new int[] {picture(c), light(0, c), light(9, c), light(19, c), covers(19, c)}) all.add((long) v);
        }
        for (int f = 0; f < figs().size(); f++) {
            for (int w = 0; w < 10; w++) all.add((long) figure(f, w));
            for (int s = 9; s < 20; s += 10) for (int w = 0; w < 4; w++) all.add((long) at(s, f, w));
            for (int w = 0; w < 3; w++) all.add((long) hang(f, 9, w));
            for (int v : new int[] {was(f, 0), was(f, 1), ask(f)}) all.add((long) v);
        }
        for (int v : new int[] {shown(0), shown(1), touched(0), touched(1), touched(2), darkest()}) all.add((long) v);
        for (int s : new int[] {0, 9, 19}) {
            for (int v : new int[] {shift(s, 0), shift(s, 1), leave(s, NONE), leave(s, 0)}) all.add((long) v);
        }
        for (int v : new int[] {more(NONE), more(0), never()}) all.add((long) v);
        all.add(stumble(5, 5, 9, 0));
        all.add(stumble(5, 5, 9, 1));
        all.add((long) play(7, 15, 0));
        all.add((long) play(7, 15, 1));
        long h = 17;
        for (long v : all) h = 31 * h + v;
        return h;
    }
}
