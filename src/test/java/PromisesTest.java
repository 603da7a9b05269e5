/** For each promise of the document: ordinary inputs, the edges that it names, wrong inputs. */
public final class PromisesTest extends Checks {
    public static void main(String[] args) {
        aNewObject();
        texts();
        faults();
        figuresTold();
        cuesTold();
        pictureTold();
        lampAndFlickers();
        reading();
        lights();
        covering();
        whereabouts();
        screens();
        showing();
        touching();
        darkest();
        hanging();
        shifting();
        more();
        leaving();
        seeing();
        never();
        colours();
        depths();
        asking();
        stumbling();
        playing();
        sheets();
        layingAndGetting();
        copying();
        writing();
        counting();
        digests();
        end();
    }

    // ---- promises 1 to 5

    private static void aNewObject() {
        about("promise 1");
        ShadowTheatre x = new ShadowTheatre();
        for (int what = 0; what <= 8; what++) is(x.count(what), 0);
        for (int text = 0; text < 3; text++) is(x.fault(text), NONE);
        for (int cell = 0; cell < 32; cell++) is(x.picture(cell), NONE);
        for (int step = 0; step < 20; step++) is(x.light(step, 31 - step), 7);
        for (int step = 0; step < 20; step++) is(x.cue(step, 0), NONE);
        is(x.lamp(16), 16);
        for (int s = 0; s < 4; s++) is(x.lose(s), NULL);
        ShadowTheatre y = new ShadowTheatre();
        y.type(0, '1');
        y.sheet(0, 0, 1);
        is(x.count(3), 0);
        is(x.lose(0), NULL);
    }

    private static void texts() {
        for (int text = 0; text < 3; text++) {
            int t = text;
            about("promise 2");
            ShadowTheatre x = new ShadowTheatre();
            is(x.type(text, 0), 1);
            is(x.type(text, 255), 2);
            is(x.type(text, 256), BAD);
            is(x.type(text, -1), BAD);
            is(x.count(3 + text), 2);
            for (int n = 3; n <= ROOM[text]; n++) is(x.type(text, '.'), n);
            is(x.type(text, '.'), FULL);
            is(x.type(text, 256), BAD);
            is(x.count(3 + text), ROOM[text]);
            bad(o -> o.type(t, 256));
            bad(o -> o.type(t, -1));
            about("promise 4");
            is(x.undo(text), ROOM[text] - 1);
            about("promise 3");
            is(x.wipe(text), ROOM[text] - 1);
            is(x.wipe(text), 0);
            is(x.fault(text), NONE);
            about("promise 4");
            is(x.undo(text), NOT);
            is(x.type(text, '9'), 1);
            is(x.undo(text), 0);
            is(x.undo(text), NOT);
            is(x.count(3 + text), 0);
        }
        about("promise 2");
        bad(o -> o.type(3, 48));
        bad(o -> o.type(-1, 48));
        ShadowTheatre one = told("", "", "7");
        is(one.type(0, 'x'), 1);
        is(one.fault(0), 0);
        is(one.fault(1), NONE);
        is(one.picture(0), 7);
        is(one.undo(0), 0);
        is(one.fault(0), NONE);
        about("promise 3");
        bad(o -> o.wipe(3));
        bad(o -> o.wipe(-1));
        ShadowTheatre x = rich();
        is(x.wipe(0), 16);
        is(x.count(0), 0);
        is(x.count(1), 3);
        is(x.wipe(1), 8);
        is(x.count(1), 0);
        is(x.wipe(2), 13);
        is(x.count(2), 0);
        is(x.count(6), 2);
        is(x.count(7), 2);
        about("promise 4");
        bad(o -> o.undo(3));
        bad(o -> o.undo(-1));
        x = told("800k#;800k", "al", "70");
        is(x.count(0), 0);
        for (int left = 9; left >= 6; left--) is(x.undo(0), left);
        is(x.fault(0), 6);
        is(x.undo(0), 5);
        is(x.count(0), 1);
        is(x.undo(2), 1);
        is(x.picture(1), NONE);
        is(x.picture(0), 7);
        is(x.undo(1), 1);
        is(x.cue(0, 0), NONE);
    }

    private static void fault(int text, String bytes, int want) {
        ShadowTheatre x = new ShadowTheatre();
        put(x, text, bytes);
        is(x.fault(text), want);
        // with a FAULT it is as if it was empty
        if (want != NONE) is(x.count(text), 0);
    }

    private static void faults() {
        about("promise 5");
        Object[][] figures = {
            {"", NONE}, {"8", 1}, {"0", 0}, {"9", 0}, {"x", 0}, {" 1", 0}, {";", 0}, {"84", 1}, {"8:", 1}, {"8/", 1},
            {"83", 2}, {"832", 2}, {"839", 2}, {"831", 3}, {"829", 3}, {"82x", 2}, {"80/", 2}, {"80:", 2}, {"800x", 3},
            {"800K", 3}, {"800k", 4}, {"800kx", 4}, {"800k;", 4}, {"800k#", NONE}, {"100r.", NONE}, {"131g#.#.#.", NONE},
            {"800b#######", 10}, {"800b......;", 11}, {"800b.......", 10}, {"800k#;", 6}, {"800k#;;", 6}, {"800k#;9", 6},
            {"800k#;800k", 10}, {"800k#;800k.", NONE}, {"800k#:", 5}, {"800k# ", 5}, {"8000", 3}, {"800k#;832k#", 8},
            {"100k.;100k.;100k.;100k.;100k.;100k.;100k.;100k.", NONE},
            {"100k.;100k.;100k.;100k.;100k.;100k.;100k.;100k.;", 48},
            {"100k.;100k.;100k.;100k.;100k.;100k.;100k.;100k.;1", 48},
            {"100k.;100k.;100k.;100k.;100k.;100k.;100k.;100k.;100k.", 48},
            {"100k.;100k.;100k.;100k.;100k.;100k.;100k.;100k.x", 47}};
        for (Object[] row : figures) fault(0, (String) row[0], (Integer) row[1]);
        Object[][] cues = {
            {"", NONE}, {"a", 1}, {"al", NONE}, {"hb", NONE}, {"i", 0}, {"`l", 0}, {"A", 0}, {"ax", 1}, {"a.", 1},
            {"ala", 3}, {".", 1}, {"..", NONE}, {".l", 1}, {"..x", 2}, {"alarafab", NONE}, {"al.", 3}, {"al.r", 3},
            {"l", 0}, {"aal", 1}, {"0l", 0}};
        for (Object[] row : cues) fault(1, (String) row[0], (Integer) row[1]);
        Object[][] pictures = {
            {"", NONE}, {"7", NONE}, {"0", NONE}, {"8", 0}, {"/", 0}, {".", NONE}, {"01234567.", NONE}, {"0.x", 2},
            {"k", 0}, {"0.8.9", 2}, {"................................", NONE}};
        for (Object[] row : pictures) fault(2, (String) row[0], (Integer) row[1]);
        fault(1, "a" + (char) 0, 1);
        fault(0, "800k#" + (char) 255, 5);
        fault(0, "831k######;831r######;831g######;831b######;831k######;831r######;831g######;831b######", NONE);
        fault(1, "alarafabblbrbfbbclcrcfcbdldrdfdbelerefeb", NONE);
        bad(o -> o.fault(3));
        bad(o -> o.fault(-1));
    }

    // ---- promises 6 to 12

    private static void figuresTold() {
        about("promise 6");
        ShadowTheatre x = told("109k#;831r.#.#.#;420g##;300b.", "al", "");
        int[][] want = {
            {1, 9, 0, 1, 1, NONE, NONE, NONE, NONE, NONE}, {8, 31, 1, 6, 0, 1, 0, 1, 0, 1},
            {4, 20, 2, 2, 1, 1, NONE, NONE, NONE, NONE}, {3, 0, 3, 1, 0, NONE, NONE, NONE, NONE, NONE}};
        for (int f = 0; f < 4; f++) for (int what = 0; what < 10; what++) is(x.figure(f, what), want[f][what]);
        is(x.figure(4, 0), BAD);
        is(x.figure(-1, 0), BAD);
        is(x.figure(0, 10), BAD);
        is(x.figure(0, -1), BAD);
        put(x, 0, "109k#;");
        is(x.figure(0, 0), BAD);
        put(x, 0, "207g.");
        is(x.figure(0, 4), 0);
        is(x.figure(0, 5), NONE);
        is(x.figure(0, 2), 2);
        bad(o -> o.figure(2, 0));
        bad(o -> o.figure(-1, 0));
        bad(o -> o.figure(0, 10));
        bad(o -> o.figure(0, -1));
    }

    private static void cuesTold() {
        about("promise 7");
        ShadowTheatre x = told("", "alhr..bfcb", "");
        int[][] want = {{0, 0}, {7, 1}, {NONE, NONE}, {1, 2}, {2, 3}, {NONE, NONE}};
        for (int step = 0; step < 6; step++) {
            is(x.cue(step, 0), want[step][0]);
            is(x.cue(step, 1), want[step][1]);
        }
        put(x, 1, "alarafabblbrbfbbclcrcfcbdldrdfdbelerefeb");
        is(x.cue(19, 0), 4);
        is(x.cue(19, 1), 3);
        x.undo(1);
        is(x.cue(0, 0), NONE);
        is(x.cue(0, 1), NONE);
        x.undo(1);
        is(x.cue(19, 0), NONE);
        is(x.cue(18, 1), 2);
        bad(o -> o.cue(20, 0));
        bad(o -> o.cue(-1, 0));
        bad(o -> o.cue(0, 2));
        bad(o -> o.cue(0, -1));
    }

    private static void pictureTold() {
        about("promise 8");
        ShadowTheatre x = told("", "", "01234567.7");
        for (int cell = 0; cell < 8; cell++) is(x.picture(cell), cell);
        is(x.picture(8), NONE);
        is(x.picture(9), 7);
        is(x.picture(10), NONE);
        put(x, 2, "...............................5");
        is(x.picture(31), 5);
        is(x.picture(30), NONE);
        put(x, 2, "70x");
        is(x.picture(0), NONE);
        bad(o -> o.picture(32));
        bad(o -> o.picture(-1));
    }

    private static void lampAndFlickers() {
        about("promise 9");
        ShadowTheatre x = told("400k#", "", "");
        is(x.lamp(0), 16);
        is(x.covers(0, 0), 1);
        is(x.lamp(31), 0);
        is(x.covers(0, 0), 0);
        is(x.lamp(31), 31);
        bad(o -> o.lamp(32));
        bad(o -> o.lamp(-1));
        about("promise 10");
        for (int n = 1; n <= 8; n++) is(x.flicker(n == 8 ? 19 : 0), n);
        is(x.flicker(3), FULL);
        is(x.flicker(20), BAD);
        is(x.count(6), 8);
        is(x.light(3, 31), 7);
        is(x.light(0, 31), 0);
        is(x.light(19, 31), 0);
        bad(o -> o.flicker(20));
        bad(o -> o.flicker(-1));
        about("promise 11");
        is(x.back(), 7);
        is(x.light(19, 31), 7);
        for (int left = 6; left >= 0; left--) {
            is(x.light(0, 31), 0);
            is(x.back(), left);
        }
        is(x.light(0, 31), 7);
        is(x.back(), NOT);
        is(x.count(6), 0);
        refused(o -> 100 * o.back() + 10 * o.back() + o.back() + 0 * (o.flicker(2) + o.flicker(5)), 100 + NOT, 2);
    }

    private static void reading() {
        about("promise 12");
        ShadowTheatre x = new ShadowTheatre();
        x.sheet(0, 0, 4);
        x.lay(0, 0, 0, 3);
        x.lay(0, 0, 1, 19);
        x.lay(0, 0, 2, 20);
        is(x.read(0), 2);
        is(x.light(3, 0), 0);
        is(x.light(19, 0), 0);
        is(x.light(0, 0), 7);
        x.lay(0, 0, 2, -1);
        is(x.read(0), 2);
        is(x.count(6), 4);
        x.lay(0, 0, 2, 3);
        is(x.read(0), 4);
        is(x.read(0), 0);
        is(x.count(6), 8);
        is(x.back(), 7);
        is(x.read(0), 1);
        x.back();
        x.lay(0, 0, 0, 100);
        is(x.read(0), 0);
        x.sheet(0, 2, 0);
        is(x.read(0), 0);
        x.sheet(1, 2, 60);
        is(x.read(1), 1);
        is(x.light(0, 0), 0);
        bad(o -> o.read(4));
        bad(o -> o.read(-1));
        found(o -> o.read(3), NULL);
    }

    // ---- promises 13 to 19

    private static void lights() {
        about("promise 13");
        ShadowTheatre x = told("802k#;802r#;804r##;805g##;806b#;809b.#", "", "");
        int[] want = {7, 7, 0, 7, 4, 0, 0, 7, 7, 7, 1, 7};
        for (int cell = 0; cell < want.length; cell++) is(x.light(0, cell), want[cell]);
        put(x, 0, "803r#;803r#;804g#;805b#");
        is(x.light(7, 3), 4);
        is(x.light(7, 4), 2);
        is(x.light(7, 5), 1);
        put(x, 1, "....arbrcldf");
        is(x.light(1, 3), 4);
        is(x.light(2, 3), 4);
        is(x.light(2, 4), 0);
        is(x.light(3, 3), 7);
        is(x.light(3, 4), 0);
        is(x.light(4, 4), 4);
        is(x.light(4, 3), 2);
        x.flicker(4);
        is(x.light(4, 3), 0);
        is(x.light(4, 31), 0);
        // at DEPTH 7 the blue one's PLACE 5 is the ray's to CELL 3
        is(x.light(5, 3), 0);
        is(x.light(5, 5), 7);
        put(x, 0, "803k#;");
        is(x.light(0, 3), 7);
        bad(o -> o.light(20, 0));
        bad(o -> o.light(-1, 0));
        bad(o -> o.light(0, 32));
        bad(o -> o.light(0, -1));
    }

    private static void covering() {
        about("promise 14");
        ShadowTheatre x = told("116k#;412r##;831g######;131b#", "", "");
        int[] byDepth1 = {0, 1, 1, 0};
        int[] cells = {11, 12, 19, 20};
        for (int i = 0; i < 4; i++) is(x.covers(0, cells[i]) & 1, byDepth1[i]);
        for (int cell = 0; cell < 32; cell++) is(x.covers(0, cell) >> 1 & 1, cell >= 7 && cell <= 10 ? 1 : 0);
        is(x.covers(0, 31), 4);
        x.flicker(0);
        is(x.covers(0, 31), 4);
        is(x.covers(0, 12), 1);
        x.lamp(31);
        is(x.covers(0, 31), 4 + 8);
        is(x.covers(0, 27), 8);
        is(x.covers(0, 26), 0);
        x.lamp(0);
        put(x, 0, "100k#;400k.#;831k.#");
        is(x.covers(0, 0), 1);
        is(x.covers(0, 1), 3);
        is(x.covers(0, 2), 3);
        is(x.covers(0, 3), 1);
        is(x.covers(0, 4), 0);
        is(x.covers(19, 31), 0);
        bad(o -> o.covers(20, 0));
        bad(o -> o.covers(-1, 0));
        bad(o -> o.covers(0, 32));
        bad(o -> o.covers(0, -1));
    }

    private static void whereabouts() {
        about("promise 15");
        ShadowTheatre x = told("101k#;130r.#;731g#", "alalbrbrafcbcbbb", "");
        int[][] a = {{1, 0}, {1, 0}, {1, 0}, {1, 0}, {1, 0}};
        for (int step = 0; step < 5; step++) for (int w = 0; w < 2; w++) is(x.at(step, 0, w), a[step][w]);
        is(x.at(1, 1, 1), 30);
        is(x.at(2, 1, 1), 31);
        is(x.at(3, 1, 1), 31);
        is(x.at(7, 1, 0), 2);
        is(x.at(5, 2, 0), 8);
        is(x.at(6, 2, 0), 8);
        is(x.at(4, 2, 0), 7);
        is(x.at(19, 2, 2), 1);
        is(x.at(19, 2, 3), 31);
        is(x.at(19, 1, 2), 0);
        is(x.at(19, 1, 3), NONE);
        put(x, 0, "116k#.#");
        put(x, 1, "");
        is(x.at(0, 0, 2), 8 + 4);
        is(x.at(0, 0, 3), 12);
        x.flicker(0);
        is(x.at(0, 0, 2), 12);
        bad(o -> o.at(20, 0, 0));
        bad(o -> o.at(-1, 0, 0));
        bad(o -> o.at(0, 2, 0));
        bad(o -> o.at(0, -1, 0));
        bad(o -> o.at(0, 0, 4));
        bad(o -> o.at(0, 0, -1));
    }

    private static void screens() {
        about("promise 16");
        ShadowTheatre x = told("802k##;806r#", "ar", "7.0.7.7.0");
        is(x.screen(0, 0), 4);
        is(x.screen(0, 1), 2);
        put(x, 1, "..ar");
        is(x.screen(0, 0), 2);
        is(x.screen(1, 0), 4);
        x.flicker(1);
        is(x.screen(1, 0), 3);
        is(x.screen(1, 1), 32);
        put(x, 2, "");
        is(x.screen(0, 0), 0);
        put(x, 0, "");
        is(x.screen(0, 1), 0);
        bad(o -> o.screen(20, 0));
        bad(o -> o.screen(-1, 0));
        bad(o -> o.screen(0, 2));
        bad(o -> o.screen(0, -1));
    }

    private static void showing() {
        about("promise 17");
        ShadowTheatre x = told("802k#", "ararar..al", ".....0");
        is(x.shown(0), 2);
        is(x.shown(1), 2);
        x.flicker(19);
        is(x.shown(1), 3);
        put(x, 2, ".....07");
        is(x.shown(1), 2);
        put(x, 2, "1");
        is(x.shown(0), NONE);
        is(x.shown(1), 0);
        put(x, 2, ".");
        is(x.shown(0), NONE);
        is(x.shown(1), 0);
        put(x, 2, "7");
        is(x.shown(0), 0);
        is(x.shown(1), 19);
        bad(o -> o.shown(2));
        bad(o -> o.shown(-1));
    }

    private static void touching() {
        about("promise 18");
        ShadowTheatre x = told("402k##;505k#;404r..;405g.;500b.", "..ar", "");
        is(x.touched(0), 0);
        is(x.touched(1), 2);
        is(x.touched(2), 3);
        put(x, 0, "402k##;505k#;404r..;406g.;500b.");
        is(x.touched(0), 1);
        is(x.touched(1), 0);
        is(x.touched(2), 2);
        put(x, 0, "402k##;404k#;405k#;403k#");
        is(x.touched(0), 0);
        is(x.touched(2), 3);
        put(x, 0, "403k#;404k#;504k#");
        put(x, 1, "..........................cf");
        is(x.touched(0), 13);
        is(x.touched(1), 1);
        is(x.touched(2), 2);
        put(x, 0, "405k#;403k##;401k##");
        put(x, 1, "");
        is(x.touched(0), NONE);
        put(x, 0, "831k#;831k#");
        is(x.touched(0), 0);
        put(x, 0, "431k#;831k#");
        for (int what = 0; what < 3; what++) is(x.touched(what), NONE);
        bad(o -> o.touched(3));
        bad(o -> o.touched(-1));
    }

    private static void darkest() {
        about("promise 19");
        ShadowTheatre x = told("816k#", "..af..ab..af", "");
        is(x.screen(0, 1), 1);
        is(x.darkest(), 0);
        put(x, 0, "216k#");
        is(x.screen(0, 1), 4);
        is(x.darkest(), 1);
        x.flicker(1);
        is(x.darkest(), 2);
        x.flicker(2);
        is(x.darkest(), 5);
        x.flicker(5);
        is(x.darkest(), 6);
        put(x, 0, "216r#;216g.");
        is(x.darkest(), 0);
        x.flicker(0);
        is(x.darkest(), 3);
        is(new ShadowTheatre().darkest(), 0);
    }

    // ---- promises 20 to 23

    private static void hanging() {
        about("promise 20");
        ShadowTheatre x = told("802k##", "", "7777777777007777");
        hang(x, 0, 0, 7, 11, 0);
        put(x, 1, "ar..ab");
        hang(x, 0, 0, 7, 10, 0);
        hang(x, 0, 1, 7, 10, 0);
        hang(x, 0, 2, 6, 10, 0);
        put(x, 1, "");
        put(x, 2, "0......................7.......0");
        hang(x, 0, 0, 1, 13, 1);
        put(x, 2, "");
        hang(x, 0, 7, 1, 0, 0);
        put(x, 2, "00");
        x.flicker(7);
        hang(x, 0, 7, 1, 0, 0);
        put(x, 2, "07");
        hang(x, 0, 7, 1, 0, 1);
        put(x, 0, "800k#;802r#");
        put(x, 2, "774");
        hang(x, 0, 0, 1, 0, 0);
        hang(x, 1, 0, 2, 13, 1);
        put(x, 0, "100k######");
        put(x, 2, "70000007777777777777777777777777");
        hang(x, 0, 0, 8, 1, 0);
        bad(o -> o.hang(2, 0, 0));
        bad(o -> o.hang(-1, 0, 0));
        bad(o -> o.hang(0, 20, 0));
        bad(o -> o.hang(0, -1, 0));
        bad(o -> o.hang(0, 0, 3));
        bad(o -> o.hang(0, 0, -1));
    }

    private static void hang(ShadowTheatre x, int figure, int step, int depth, int place, int falseBy) {
        is(x.hang(figure, step, 0), depth);
        is(x.hang(figure, step, 1), place);
        is(x.hang(figure, step, 2), falseBy);
    }

    private static void shifting() {
        about("promise 21");
        ShadowTheatre x = told("100k#", "", "0000000000000000");
        is(x.shift(0, 0), 0);
        is(x.shift(0, 1), 12);
        x.lamp(7);
        is(x.shift(0, 0), 0);
        is(x.lamp(7), 7);
        put(x, 2, "7");
        is(x.shift(0, 0), 1);
        is(x.shift(0, 1), 0);
        put(x, 0, "130k#");
        put(x, 2, "....................00000000...7");
        is(x.shift(5, 0), 31);
        is(x.shift(5, 1), 1);
        put(x, 2, "");
        is(x.shift(19, 0), 0);
        is(x.shift(19, 1), 0);
        put(x, 2, "007");
        x.flicker(4);
        is(x.shift(4, 0), 0);
        is(x.shift(4, 1), 1);
        bad(o -> o.shift(20, 0));
        bad(o -> o.shift(-1, 0));
        bad(o -> o.shift(0, 2));
        bad(o -> o.shift(0, -1));
    }

    private static void more(ShadowTheatre x, int many, int first, int second) {
        is(x.more(NONE), many);
        is(x.more(0), first);
        is(x.more(1), second);
    }

    private static void more() {
        about("promise 22");
        ShadowTheatre x = told("805k#;810r#", "", ".....0");
        more(x, 0, NONE, NONE);
        put(x, 2, "......0");
        more(x, 1, 1, NONE);
        put(x, 2, ".......0");
        more(x, 2, 1, 1);
        put(x, 2, "........0");
        more(x, NONE, NONE, NONE);
        put(x, 2, "....0......4");
        more(x, 2, 0, 5);
        put(x, 2, ".....7");
        more(x, 1, 0, NONE);
        // at DEPTH 7, too, PLACE 5 is the ray's to CELL 3
        put(x, 2, "...0");
        more(x, 1, 2, NONE);
        put(x, 2, "...0......7");
        more(x, 2, 2, 4);
        put(x, 0, "805k##;810r#");
        put(x, 2, "...0077");
        more(x, 2, 0, 0);
        put(x, 0, "805k#;810r#");
        put(x, 2, "......0....4");
        more(x, 2, 1, 5);
        put(x, 1, "aralararararaf..brblbrbl............araf");
        put(x, 2, "");
        more(x, NONE, NONE, NONE);
        put(x, 1, "......................................ar");
        put(x, 2, ".....0");
        more(x, 1, 0, NONE);
        put(x, 1, "");
        x.flicker(19);
        more(x, 0, NONE, NONE);
        put(x, 2, ".....07");
        more(x, NONE, NONE, NONE);
        put(x, 0, "");
        more(x, NONE, NONE, NONE);
        x.back();
        put(x, 2, "7");
        more(x, 0, NONE, NONE);
        bad(o -> o.more(2));
        bad(o -> o.more(-2));
    }

    private static void leave(ShadowTheatre x, int step, int many, int first, int second) {
        is(x.leave(step, NONE), many);
        is(x.leave(step, 0), first);
        is(x.leave(step, 1), second);
    }

    private static void leaving() {
        about("promise 23");
        ShadowTheatre x = told("805k#;805r#;805g#;806b#", "dr", ".....0");
        leave(x, 0, 0, NONE, NONE);
        put(x, 2, ".....2");
        leave(x, 0, 2, 0, 1);
        put(x, 2, ".....4");
        leave(x, 0, 2, 0, 2);
        put(x, 2, ".....7");
        leave(x, 0, NONE, NONE, NONE);
        put(x, 2, ".......7");
        leave(x, 0, 1, 3, NONE);
        put(x, 2, ".......1");
        leave(x, 0, 0, NONE, NONE);
        put(x, 0, "805r#;805g#");
        put(x, 2, ".....4");
        leave(x, 3, 1, 1, NONE);
        put(x, 2, ".....7");
        leave(x, 3, 2, 0, 1);
        x.flicker(3);
        leave(x, 3, NONE, NONE, NONE);
        put(x, 2, ".....0");
        leave(x, 3, 0, NONE, NONE);
        put(x, 2, "");
        leave(x, 0, NONE, NONE, NONE);
        put(x, 0, "805k#");
        put(x, 2, ".....0");
        leave(x, 0, 0, NONE, NONE);
        put(x, 2, ".....7");
        leave(x, 0, 1, 0, NONE);
        put(x, 1, "");
        put(x, 0, "805k#;809k#;806k#;805k#;805k#");
        leave(x, 0, NONE, NONE, NONE);
        put(x, 0, "809k#;805k#;806k#;805k#");
        leave(x, 0, 2, 1, 3);
        put(x, 0, "");
        put(x, 2, "7");
        leave(x, 0, 0, NONE, NONE);
        bad(o -> o.leave(20, 0));
        bad(o -> o.leave(-1, 0));
        bad(o -> o.leave(0, 2));
        bad(o -> o.leave(0, -2));
    }

    // ---- promises 24 to 28

    private static void seeing() {
        about("promise 24");
        ShadowTheatre x = told("805k#", "", "");
        for (int n = 1; n <= 8; n++) is(x.seen(n == 8 ? 19 : 0, n == 8 ? 31 : 0, 7), n);
        is(x.seen(0, 0, 7), FULL);
        is(x.seen(0, 0, 8), BAD);
        is(x.count(7), 8);
        is(x.was(0, 0), 15);
        bad(o -> o.seen(20, 0, 0));
        bad(o -> o.seen(-1, 0, 0));
        bad(o -> o.seen(0, 32, 0));
        bad(o -> o.seen(0, -1, 0));
        bad(o -> o.seen(0, 0, 8));
        bad(o -> o.seen(0, 0, -1));
        about("promise 25");
        is(x.forget(), 8);
        is(x.forget(), 0);
        is(x.count(7), 0);
        is(x.seen(0, 5, 7), 1);
        is(x.was(0, 0), 0);
        is(x.forget(), 1);
        is(x.was(0, 0), 15);
    }

    private static void never() {
        about("promise 26");
        ShadowTheatre x = told("805k#", "ar..alblarab", "");
        is(x.never(), 1 + 4 + 8 + 16 + 32);
        x.seen(19, 6, 0);
        is(x.never(), 8 + 32);
        x.forget();
        x.seen(19, 5, 0);
        is(x.never(), 1 + 16);
        x.seen(0, 5, 0);
        is(x.never(), 1);
        x.seen(1, 6, 0);
        is(x.never(), 0);
        x.forget();
        x.seen(5, 5, 0);
        x.flicker(5);
        is(x.never(), 1 + 4 + 8 + 16 + 32);
        is(new ShadowTheatre().never(), 0);
        x = told("805k#", "......................................ar", "");
        x.seen(19, 5, 0);
        is(x.never(), 1 << 19);
    }

    private static void colours() {
        about("promise 27");
        ShadowTheatre x = told("805k#;805r#", "", "");
        is(x.was(0, 0), 15);
        x.seen(0, 5, 0);
        is(x.was(0, 0), 1 + 4 + 8);
        is(x.was(1, 0), 15);
        x.seen(0, 5, 4);
        is(x.was(0, 0), 0);
        x.forget();
        x.seen(0, 5, 4);
        is(x.was(0, 0), 2);
        is(x.was(1, 0), 0);
        put(x, 1, "arblbb");
        x.seen(2, 6, 2);
        is(x.was(0, 0), 4);
        is(x.was(1, 0), 0);
        is(x.figure(0, 2), 0);
        x.flicker(2);
        is(x.was(0, 0), 0);
    }

    private static void depths() {
        about("promise 27");
        ShadowTheatre x = told("116k#;805r#", "", "");
        is(x.was(0, 1), 510);
        x.seen(0, 17, 0);
        is(x.was(0, 1), 2 + 4 + 8);
        is(x.was(1, 1), 510);
        x.seen(0, 18, 7);
        is(x.was(0, 1), 4 + 8);
        put(x, 1, "ab");
        is(x.was(0, 1), 2 + 4);
        put(x, 1, "abaf");
        x.forget();
        x.seen(0, 5, 4);
        is(x.was(1, 1), 256);
        is(x.was(0, 1), 510);
        x.forget();
        put(x, 1, "abab");
        x.seen(1, 17, 7);
        is(x.was(0, 1), 4 + 8 + 16 + 32 + 64 + 128 + 256);
        is(x.was(1, 1), 0);
        bad(o -> o.was(2, 0));
        bad(o -> o.was(-1, 0));
        bad(o -> o.was(0, 2));
        bad(o -> o.was(0, -1));
    }

    private static void asking() {
        about("promise 28");
        ShadowTheatre x = told("116k#", "", "");
        // from as many of the 8 DEPTHS it COVERS: CELLS 12 and 13 from 1, 14 from 2, 15 from 4, 16 from 8, 17 from 3
        is(x.ask(0), 15);
        x.seen(0, 14, 0);
        is(x.was(0, 1), 2 + 4);
        is(x.ask(0), 12);
        put(x, 1, "ar");
        is(x.was(0, 1), 0);
        put(x, 1, "..ar");
        // one PLACE on, the two DEPTHS are told apart by CELLS 18 and 19 and by 22 to 27
        is(x.ask(0), 18);
        x.forget();
        x.seen(0, 16, 7);
        is(x.was(0, 1), 0);
        is(x.ask(0), 0);
        x.forget();
        put(x, 1, "ar");
        is(x.ask(0), 18);
        put(x, 1, "......................................ar");
        is(x.ask(0), 18);
        x.flicker(19);
        is(x.ask(0), 0);
        x.back();
        put(x, 0, "116k.");
        is(x.ask(0), 0);
        bad(o -> o.ask(2));
        bad(o -> o.ask(-1));
    }

    // ---- promises 29 and 30

    private static void stumble(ShadowTheatre x, int c, int last, int step, long above, long below) {
        is(x.stumble(c, last, step, 0), above);
        is(x.stumble(c, last, step, 1), below);
    }

    private static void stumbling() {
        about("promise 29");
        ShadowTheatre x = told("805k#", "ar", "......0");
        stumble(x, 4, 0, 0, 3, 4);
        stumble(x, 5, 0, 19, 11, 16);
        stumble(x, 0, 0, 0, 1, 1);
        stumble(x, 16, 0, 0, 0, 1);
        stumble(x, 8, 9, 0, 1, 2);
        put(x, 1, "arar");
        stumble(x, 5, 1, 1, 55, 128);
        stumble(x, 8, 1, 1, 1, 2);
        stumble(x, 5, 0, 1, 5, 16);
        stumble(x, 5, 1, 0, 11, 16);
        put(x, 0, "805k#;805r#");
        put(x, 1, "arbrarbr");
        put(x, 2, "......04");
        // both of a's or one and none of b's: one of a's (6), two of b's (7)
        stumble(x, 4, 3, 3, 27, 128);
        stumble(x, 4, 2, 3, 9, 32);
        put(x, 0, "805k#");
        put(x, 1, "blblblblblblblblblbr");
        put(x, 2, ".....0");
        stumble(x, 3, 9, 19, 1, 1);
        put(x, 1, "arararararararararar");
        put(x, 2, "...............0");
        stumble(x, 1, 9, 19, 576650390625L, 1L << 40);
        stumble(x, 3, 9, 9, 137858491849L, 1L << 40);
        stumble(x, 3, 9, 8, 0, 1);
        put(x, 2, "");
        stumble(x, 3, 9, 9, 0, 1);
        put(x, 2, "0");
        x.flicker(9);
        stumble(x, 3, 9, 9, 1, 1);
        long refusal = Long.MIN_VALUE + 2;
        refused(o -> o.stumble(-1, 0, 0, 0), refusal, 2);
        refused(o -> o.stumble(17, 0, 0, 0), refusal, 2);
        refused(o -> o.stumble(0, -1, 0, 0), refusal, 2);
        refused(o -> o.stumble(0, 10, 0, 0), refusal, 2);
        refused(o -> o.stumble(0, 0, -1, 0), refusal, 2);
        refused(o -> o.stumble(0, 0, 20, 0), refusal, 2);
        refused(o -> o.stumble(0, 0, 0, -1), refusal, 2);
        refused(o -> o.stumble(0, 0, 0, 2), refusal, 2);
    }

    private static void playing() {
        about("promise 30");
        ShadowTheatre x = told("805k#;110r#", "arararar", ".....0");
        // no CUES: those told are not done either
        is(x.play(1, 0, 0), 20);
        is(x.play(1, 0, 1), 1);
        // from SEED 0 the LOTS are 0, 54236, 42756, 54885, 3498, 49695: al, ar, ab
        is(x.play(0, 1, 0), 0);
        is(x.play(0, 2, 0), 19);
        is(x.play(0, 3, 0), 19);
        is(x.shown(1), 0);
        // from SEED 2 with three FIGURES br, cf, ab, ar; with one ar, af, ab, ar
        put(x, 0, "805k#;810r#;815g#");
        put(x, 2, "......0....4");
        is(x.play(2, 4, 0), 17);
        is(x.play(2, 3, 0), 0);
        put(x, 2, "...........4");
        is(x.play(2, 1, 0), 20);
        is(x.play(2, 0, 0), 0);
        put(x, 0, "805k#");
        put(x, 2, "......0");
        int[] shownIn = {0, 20, 1, 19, 2};
        for (int n = 0; n < 5; n++) is(x.play(2, n, 0), shownIn[n]);
        is(x.play(2, 2, 1), 2);
        is(x.play(2, 3, 1), 1);
        put(x, 0, "805k#;110r#");
        put(x, 2, ".....0");
        put(x, 1, "");
        is(x.shown(1), 20);
        x.flicker(3);
        is(x.play(1, 0, 0), 20);
        x.flicker(19);
        is(x.play(1, 0, 1), 32);
        put(x, 0, "");
        put(x, 2, "7");
        is(x.play(-5, 20, 0), 18);
        x.back();
        is(x.play(-5, 20, 1), 0);
        bad(o -> o.play(1, 21, 0));
        bad(o -> o.play(1, -1, 0));
        bad(o -> o.play(1, 1, 2));
        bad(o -> o.play(1, 1, -1));
    }

    // ---- promises 31 to 36

    private static void sheets() {
        about("promise 31");
        ShadowTheatre x = new ShadowTheatre();
        for (int form = 0; form < 3; form++) {
            is(x.sheet(form, form, 60), 60);
            is(x.lay(form, form, 59, 7), 1);
            is(x.get(form, form, 59), 7);
            is(x.get(form, form, 60), LEAST);
        }
        is(x.sheet(0, 2, 60), 60);
        is(x.get(0, 2, 59), 0);
        is(x.sheet(3, 0, 0), 0);
        is(x.lose(3), 0);
        is(x.sheet(1, 1, 3), 3);
        is(x.get(1, 1, 3), LEAST);
        bad(o -> o.sheet(4, 0, 1));
        bad(o -> o.sheet(-1, 0, 1));
        bad(o -> o.sheet(0, 3, 1));
        bad(o -> o.sheet(0, -1, 1));
        bad(o -> o.sheet(0, 0, 61));
        bad(o -> o.sheet(4, 0, -1));
        bad(o -> o.sheet(0, 3, -1));
        found(o -> o.sheet(0, 0, -1), SIZE);
        found(o -> o.sheet(3, 2, Integer.MIN_VALUE), SIZE);
        about("promise 32");
        is(x.lose(1), 3);
        is(x.lose(1), NULL);
        is(x.count(8), 1);
        is(x.get(1, 1, 0), LEAST);
        is(x.lose(0), 60);
        bad(o -> o.lose(4));
        bad(o -> o.lose(-1));
        found(o -> o.lose(3), NULL);
    }

    private static void layingAndGetting() {
        about("promise 33");
        ShadowTheatre x = new ShadowTheatre();
        int[][] cut = {{200, -56, 200, 200}, {40000, 64, -25536, 40000}, {-1, -1, -1, -1},
            {LEAST, 0, 0, LEAST}, {128, -128, 128, 128}, {127, 127, 127, 127}, {0x18000, 0, -32768, 0x18000}};
        for (int form = 0; form < 3; form++) {
            x.sheet(form, form, cut.length);
            for (int i = 0; i < cut.length; i++) is(x.lay(form, form, i, cut[i][0]), 1);
            about("promise 34");
            for (int i = 0; i < cut.length; i++) is(x.get(form, form, i), cut[i][1 + form]);
            about("promise 33");
        }
        is(x.count(8), 0);
        bad(o -> o.lay(4, 0, 0, 0));
        bad(o -> o.lay(-1, 0, 0, 0));
        bad(o -> o.lay(0, 3, 0, 0));
        bad(o -> o.lay(0, -1, 0, 0));
        found(o -> o.lay(3, 0, 0, 0), NULL);
        found(o -> o.lay(0, 1, 99, 0), CAST);
        found(o -> o.lay(1, 2, 0, 0), CAST);
        found(o -> o.lay(0, 0, 5, 0), INDEX);
        found(o -> o.lay(0, 0, -1, 0), INDEX);
        about("promise 34");
        refused(o -> o.get(4, 0, 0), LEAST, 2);
        refused(o -> o.get(-1, 0, 0), LEAST, 2);
        refused(o -> o.get(3, 3, 0), LEAST, 2);
        refused(o -> o.get(3, -1, 0), LEAST, 2);
        refused(o -> o.get(3, 0, 0), LEAST, 1);
        refused(o -> o.get(0, 1, 99), LEAST, 3);
        refused(o -> o.get(2, 0, 0), LEAST, 3);
        refused(o -> { o.lose(3); return o.get(0, 0, 5); }, LEAST, 2);
        refused(o -> { o.lose(3); return o.get(0, 0, -1); }, LEAST, 2);
    }

    private static void copying() {
        about("promise 35");
        ShadowTheatre x = new ShadowTheatre();
        x.sheet(0, 2, 5);
        x.sheet(1, 2, 3);
        for (int i = 0; i < 5; i++) x.lay(0, 2, i, i + 1);
        is(x.copy(0, 1, 1, 0, 3), 1);
        rowIs(x, 1, 2, 3, 4);
        is(x.copy(0, 0, 0, 1, 4), 1);
        rowIs(x, 0, 1, 1, 2, 3, 4);
        is(x.copy(0, 2, 0, 0, 3), 1);
        rowIs(x, 0, 2, 3, 4, 3, 4);
        is(x.copy(0, 5, 1, 3, 0), 1);
        is(x.copy(1, 3, 0, 5, 0), 1);
        is(x.copy(1, 0, 0, 2, 3), 1);
        rowIs(x, 0, 2, 3, 2, 3, 4);
        is(x.copy(0, 6, 1, 0, 0), INDEX);
        is(x.copy(0, 0, 1, 4, 0), INDEX);
        is(x.copy(0, 0, 1, 0, 4), INDEX);
        is(x.copy(1, 1, 0, 0, 3), INDEX);
        rowIs(x, 0, 2, 3, 2, 3, 4);
        bad(o -> o.copy(4, 0, 0, 0, 0));
        bad(o -> o.copy(0, 0, 4, 0, 0));
        bad(o -> o.copy(3, 0, -1, 0, 0));
        bad(o -> o.copy(-1, 0, 3, 0, 0));
        found(o -> o.copy(3, -1, 0, 0, 0), NULL);
        found(o -> o.copy(0, -1, 3, 0, 0), NULL);
        found(o -> o.copy(0, -1, 1, 0, 0), STORE);
        found(o -> o.copy(0, -1, 0, 0, 1), INDEX);
        found(o -> o.copy(0, 0, 0, -1, 1), INDEX);
        found(o -> o.copy(0, 0, 0, 0, -1), INDEX);
        found(o -> o.copy(0, 1, 0, 0, 5), INDEX);
        found(o -> o.copy(0, 0, 0, 1, 5), INDEX);
        found(o -> o.copy(0, 6, 0, 0, 0), INDEX);
        found(o -> o.copy(0, 1, 0, 1, Integer.MAX_VALUE), INDEX);
        found(o -> o.copy(0, Integer.MAX_VALUE, 0, 0, 1), INDEX);
        found(o -> o.copy(0, 0, 0, Integer.MAX_VALUE, Integer.MAX_VALUE), INDEX);
        found(o -> o.copy(0, 0, 0, 0, Integer.MIN_VALUE), INDEX);
    }

    private static void writing() {
        about("promise 36");
        ShadowTheatre x = told("800r#;802b#;831g#", "..ar", "");
        x.sheet(0, 2, 4);
        is(x.write(0, 0), 4);
        rowIs(x, 0, 4, 7, 1, 7);
        is(x.write(1, 0), 4);
        rowIs(x, 0, 7, 4, 1, 7);
        x.flicker(1);
        is(x.write(1, 0), 4);
        rowIs(x, 0, 0, 0, 0, 0);
        x.sheet(1, 0, 60);
        x.lay(1, 0, 32, 99);
        is(x.write(0, 1), 32);
        is(x.get(1, 0, 31), 2);
        is(x.get(1, 0, 32), 99);
        x.sheet(2, 1, 0);
        is(x.write(0, 2), 0);
        x.sheet(2, 1, 32);
        is(x.write(0, 2), 32);
        is(x.get(2, 1, 31), 2);
        x.sheet(2, 1, 33);
        is(x.write(0, 2), 32);
        bad(o -> o.write(20, 0));
        bad(o -> o.write(-1, 3));
        bad(o -> o.write(0, 4));
        bad(o -> o.write(0, -1));
        found(o -> o.write(0, 3), NULL);
    }

    // ---- promises 37 and 38

    private static void counting() {
        about("promise 37");
        ShadowTheatre x = rich();
        int[] want = {2, 3, 2, 16, 8, 13, 2, 2, 2};
        for (int what = 0; what < want.length; what++) is(x.count(what), want[what]);
        put(x, 1, "hl..al");
        is(x.count(1), 2);
        put(x, 1, "hl..al.");
        is(x.count(1), 0);
        is(x.count(4), 7);
        put(x, 2, "0.7x");
        is(x.count(2), 0);
        is(x.count(5), 4);
        put(x, 0, "800k#;");
        is(x.count(0), 0);
        is(x.count(3), 6);
        is(x.lose(3), NULL);
        is(x.count(8), 1);
        is(x.lay(0, 0, 0, 0), 1);
        is(x.count(8), 1);
        is(x.sheet(0, 0, -2), SIZE);
        is(x.count(8), 5);
        bad(o -> o.count(9));
        bad(o -> o.count(-1));
    }

    private static void digests() {
        about("promise 38");
        ShadowTheatre[] all = {new ShadowTheatre(), rich(), told("816k###;416r#.#;215g##;131b......", "arbrcldfarbb", "7...")};
        for (ShadowTheatre x : all) {
            long byHand = digest(x);
            is(x.digest(), byHand);
            is(x.digest(), byHand);
        }
        ShadowTheatre x = rich();
        x.lose(3);
        is(x.digest(), all[1].digest());
        x.sheet(3, 1, 9);
        is(x.digest(), all[1].digest());
        x.flicker(0);
        is(x.digest() == all[1].digest() ? 1 : 0, 0);
        String cues = "alarblbrafabbfbbclcralarblbrafabcfcbclcr";
        for (int many = 4; many <= 20; many++) {
            x = told("816k###;416r#.#;215g##", cues.substring(0, 2 * many), "...............000....7");
            is(x.digest(), digest(x));
        }
    }

    /** The order that the document tells, by the calls themselves. */
    private static long digest(ShadowTheatre x) {
        long h = 17;
        for (int w = 0; w < 8; w++) h = 31 * h + x.count(w);
        for (int t = 0; t < 3; t++) h = 31 * h + x.fault(t);
        for (int s = 0; s < 20; s++) {
            h = mix(h, x.cue(s, 0), x.cue(s, 1), x.screen(s, 0), x.screen(s, 1));
        }
        for (int c = 0; c < 32; c++) {
            h = mix(h, x.picture(c), x.light(0, c), x.light(9, c), x.light(19, c), x.covers(19, c));
        }
        for (int f = 0; f < x.count(0); f++) {
            for (int w = 0; w < 10; w++) h = mix(h, x.figure(f, w));
            for (int w = 0; w < 4; w++) h = mix(h, x.at(9, f, w));
            for (int w = 0; w < 4; w++) h = mix(h, x.at(19, f, w));
            h = mix(h, x.hang(f, 9, 0), x.hang(f, 9, 1), x.hang(f, 9, 2), x.was(f, 0), x.was(f, 1), x.ask(f));
        }
        h = mix(h, x.shown(0), x.shown(1), x.touched(0), x.touched(1), x.touched(2), x.darkest());
        for (int s : new int[] {0, 9, 19}) h = mix(h, x.shift(s, 0), x.shift(s, 1), x.leave(s, NONE), x.leave(s, 0));
        h = mix(h, x.more(NONE), x.more(0), x.never(), x.stumble(5, 5, 9, 0), x.stumble(5, 5, 9, 1));
        return mix(h, x.play(7, 15, 0), x.play(7, 15, 1));
    }

    private static long mix(long hash, long... all) {
        long h = hash;
        for (long v : all) h = 31 * h + v;
        return h;
    }
}
