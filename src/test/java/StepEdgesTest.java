/** Promises 13 to 19: each sentence that names an edge of what is on the screen in a step. */
public final class StepEdgesTest extends Checks {
    public static void main(String[] args) {
        runAll(StepEdgesTest.class);
    }

    private static void stands(ShadowTheatre x, int step, int figure, int depth, int place) {
        is(x.at(step, figure, 0), depth);
        is(x.at(step, figure, 1), place);
    }

    private static void covered(ShadowTheatre x, int figure, int... cells) {
        int next = 0;
        for (int cell = 0; cell < CELLS; cell++) {
            boolean due = next < cells.length && cells[next] == cell;
            if (due) next++;
            is(x.covers(0, cell) >> figure & 1, due ? 1 : 0);
        }
        is(x.at(0, figure, 2), cells.length);
        is(x.at(0, figure, 3), cells.length == 0 ? NONE : cells[0]);
    }

    // ---- in each STEP first its CUE is done

    static void inAStepFirstItsCueIsDone() {
        ShadowTheatre x = told("405k#", "ar" + times(18, "..") + "ar", "");
        stands(x, 0, 0, 4, 6);
        stands(x, 18, 0, 4, 6);
        stands(x, 19, 0, 4, 7);
    }

    static void eachOfTwentyCuesIsDone() {
        ShadowTheatre x = told("800k#", times(20, "ar"), "");
        for (int step = 0; step < STEPS; step++) {
            stands(x, step, 0, 8, step + 1);
            is(x.light(step, step + 1), 0);
            is(x.light(step, step), 7);
            is(x.covers(step, step + 1), 1);
            is(x.screen(step, 1), 1);
        }
    }

    static void noCueOfALaterStepIsDone() {
        ShadowTheatre x = told("405k#", times(19, "..") + "ar", "");
        for (int step = 0; step < 19; step++) stands(x, step, 0, 4, 5);
        stands(x, 19, 0, 4, 6);
    }

    static void aFlickerLetsTheCueBeDone() {
        ShadowTheatre x = told("405k#", "ar", "");
        flickers(x, 0);
        stands(x, 0, 0, 4, 6);
        stands(x, 1, 0, 4, 6);
    }

    static void aCueOfAFigureThatIsNotThereMovesNothing() {
        ShadowTheatre x = told("405k#", "brhlcbar", "");
        for (int step = 0; step < 3; step++) stands(x, step, 0, 4, 5);
        stands(x, 3, 0, 4, 6);
        put(x, 0, "");
        is(x.covers(3, 7), 0);
        put(x, 0, "405k#;505k#");
        stands(x, 3, 1, 5, 6);
    }

    static void aCueMovesThatFigureAlone() {
        ShadowTheatre x = figures("405k#;405k#;405k#;405k#;405k#;405k#;405k#;405k#");
        for (int f = 0; f < 8; f++) {
            put(x, 1, "" + (char) ('a' + f) + 'b');
            for (int other = 0; other < 8; other++) stands(x, 0, other, other == f ? 5 : 4, 5);
        }
    }

    static void leftGoesToPlace0AndStays() {
        ShadowTheatre x = told("402k#", "alalalal", "");
        int[] want = {1, 0, 0, 0};
        for (int step = 0; step < 4; step++) stands(x, step, 0, 4, want[step]);
    }

    static void rightGoesToPlace31AndStays() {
        ShadowTheatre x = told("429k#", "arararar", "");
        int[] want = {30, 31, 31, 31};
        for (int step = 0; step < 4; step++) stands(x, step, 0, 4, want[step]);
    }

    static void forwardGoesToDepth1AndStays() {
        ShadowTheatre x = told("305k#", "afafafaf", "");
        int[] want = {2, 1, 1, 1};
        for (int step = 0; step < 4; step++) stands(x, step, 0, want[step], 5);
    }

    static void backGoesToDepth8AndStays() {
        ShadowTheatre x = told("605k#", "abababab", "");
        int[] want = {7, 8, 8, 8};
        for (int step = 0; step < 4; step++) stands(x, step, 0, want[step], 5);
    }

    static void aFigureThatStayedGoesBackAtOnce() {
        ShadowTheatre x = told("100k#;831k#", "alarafabbrblbbbf", "");
        stands(x, 0, 0, 1, 0);
        stands(x, 1, 0, 1, 1);
        stands(x, 2, 0, 1, 1);
        stands(x, 3, 0, 2, 1);
        stands(x, 4, 1, 8, 31);
        stands(x, 5, 1, 8, 30);
        stands(x, 6, 1, 8, 30);
        stands(x, 7, 1, 7, 30);
    }

    // ---- the ray: PLACE 8 LAMP, and 4, and d times (CELL less LAMP), all that by 8, cut

    /** In sixteenths, from the middle of a PLACE: where the ray is between THE LAMP and the CELL. */
    private static int rayPlace(int lamp, int depth, int cell) {
        int sixteenths = 16 * lamp + 8 + 2 * depth * (cell - lamp);
        int place = 0;
        while (16 * (place + 1) <= sixteenths) place++;
        return place;
    }

    static void marksToldAnewCoverAnew() {
        for (int f = 0; f < 8; f++) {
            ShadowTheatre x = new ShadowTheatre();
            for (String marks : new String[] {"#..", ".#.", "..#", "###", "..."}) {
                put(x, 0, times(f, "100k.;") + "810k" + marks);
                for (int mark = 0; mark < 3; mark++) {
                    is(x.covers(0, 10 + mark), marks.charAt(mark) == '#' ? 1 << f : 0);
                    is(x.light(0, 10 + mark), marks.charAt(mark) == '#' ? 0 : 7);
                }
            }
        }
    }

    static void everyRayGoesThroughItsPlace() {
        for (int depth = 1; depth <= 8; depth++) {
            for (int lamp = 0; lamp < 32; lamp++) {
                ShadowTheatre x = new ShadowTheatre();
                x.lamp(lamp);
                for (int part = 0; part < 8; part++) {
                    StringBuilder four = new StringBuilder();
                    for (int f = 0; f < 4; f++) four.append(f == 0 ? "" : ";").append(depth).append(place(4 * part + f)).append("k#");
                    put(x, 0, four.toString());
                    for (int cell = 0; cell < CELLS; cell++) {
                        int f = rayPlace(lamp, depth, cell) - 4 * part;
                        is(x.covers(0, cell), f >= 0 && f < 4 ? 1 << f : 0);
                    }
                }
            }
        }
    }

    private static String place(int v) {
        return "" + v / 10 + v % 10;
    }

    static void atDepth8TheRayGoesThroughTheCell() {
        for (int lamp : new int[] {0, 16, 31}) {
            ShadowTheatre x = figures("800k#;815k#;831k#");
            x.lamp(lamp);
            covered(x, 0, 0);
            covered(x, 1, 15);
            covered(x, 2, 31);
        }
    }

    static void aRayJustShortOfAPlaceIsCut() {
        // LAMP 0, DEPTH 4: CELL 0 is at 4 by 8, CELL 1 at 8 by 8; DEPTH 3: 7 by 8
        ShadowTheatre x = figures("400k#;401k#;300k#;301k#");
        x.lamp(0);
        covered(x, 0, 0);
        covered(x, 1, 1, 2);
        covered(x, 2, 0, 1);
        covered(x, 3, 2, 3);
        // LAMP 31: CELL 30 is at 248 by 8 from DEPTH 4, at 247 by 8 from DEPTH 5
        put(x, 0, "431k#;430k#;531k#;530k#");
        x.lamp(31);
        covered(x, 0, 30, 31);
        covered(x, 1, 28, 29);
        covered(x, 2, 31);
        covered(x, 3, 29, 30);
    }

    static void nextToTheLampAFigureIsWide() {
        ShadowTheatre x = figures("114k#####;116k#");
        is(x.at(0, 0, 2), 32);
        is(x.at(0, 0, 3), 0);
        is(x.screen(0, 1), 32);
        covered(x, 1, 12, 13, 14, 15, 16, 17, 18, 19);
    }

    // ---- COVERS: a MARK of it that is card, at that PLACE at its DEPTH

    static void theFirstMarkIsAtThePlaceAndTheNextOnesAtTheNext() {
        covered(figures("803k######"), 0, 3, 4, 5, 6, 7, 8);
        covered(figures("803k#....#"), 0, 3, 8);
        covered(figures("803k.####."), 0, 4, 5, 6, 7);
    }

    static void aHoleCoversNothing() {
        ShadowTheatre x = figures("803k.;803k......");
        covered(x, 0);
        covered(x, 1);
        is(x.light(0, 3), 7);
        put(x, 0, "803k#.#.#.");
        covered(x, 0, 3, 5, 7);
    }

    static void marksBeyondPlace31CoverNothing() {
        for (int depth = 1; depth <= 8; depth++) {
            for (int lamp : new int[] {0, 16, 31}) {
                ShadowTheatre x = figures(depth + "31k.#####");
                x.lamp(lamp);
                covered(x, 0);
                is(x.screen(0, 1), 0);
            }
        }
        covered(figures("831k######"), 0, 31);
        covered(figures("830k######"), 0, 30, 31);
        covered(figures("826k######"), 0, 26, 27, 28, 29, 30, 31);
        covered(figures("827k.....#"), 0);
    }

    static void aFigureMovedAgainstTheEdgeCoversLess() {
        ShadowTheatre x = told("826k######", times(6, "ar"), "");
        int[] want = {5, 4, 3, 2, 1, 1};
        for (int step = 0; step < 6; step++) {
            is(x.at(step, 0, 2), want[step]);
            is(x.at(step, 0, 3), Math.min(31, 27 + step));
        }
    }

    static void aFigureOfGlassCoversToo() {
        ShadowTheatre x = figures("803r#;803g#;803b#");
        is(x.covers(0, 3), 7);
    }

    static void coversHasABitForEachOfEightFigures() {
        ShadowTheatre x = figures(times(7, "805k#;") + "805k#");
        is(x.covers(0, 5), 255);
        is(x.covers(19, 5), 255);
        is(x.covers(0, 4), 0);
        put(x, 0, times(7, "804k#;") + "805k#");
        is(x.covers(0, 5), 128);
        is(x.covers(0, 4), 127);
    }

    static void inAFlickerFiguresCoverToo() {
        ShadowTheatre x = figures("803r#");
        flickers(x, 0);
        is(x.covers(0, 3), 1);
        covered(x, 0, 3);
    }

    static void theLeastCellIs0OrNoneAtTheEdges() {
        ShadowTheatre x = figures("800k#;831k#;800k.;815k#.#");
        is(x.at(0, 0, 3), 0);
        is(x.at(0, 1, 3), 31);
        is(x.at(0, 2, 3), NONE);
        is(x.at(0, 2, 2), 0);
        is(x.at(0, 3, 3), 15);
        is(x.at(0, 3, 2), 2);
    }

    // ---- promise 13: LIGHT

    static void lightOfACellThatNoneCoversIs7() {
        ShadowTheatre x = figures("803k#");
        for (int cell = 0; cell < CELLS; cell++) is(x.light(0, cell), cell == 3 ? 0 : 7);
    }

    static void blackTakesAllAndGlassLeavesItsOwn() {
        ShadowTheatre x = figures("800k#;801r#;802g#;803b#");
        int[] want = {0, 4, 2, 1, 7};
        for (int cell = 0; cell < 5; cell++) is(x.light(0, cell), want[cell]);
    }

    static void ofTwoFiguresLightIsWhatBothLeave() {
        int[] leaves = {0, 4, 2, 1};
        for (int a = 0; a < 4; a++) {
            for (int b = 0; b < 4; b++) {
                ShadowTheatre x = figures("405" + "krgb".charAt(a) + "#;808" + "krgb".charAt(b) + "######");
                x.lamp(0);
                is(x.light(0, 10), leaves[a] & leaves[b]);
            }
        }
    }

    static void ofEightFiguresLightIsWhatAllLeave() {
        is(figures(times(7, "805r#;") + "805r#").light(0, 5), 4);
        is(figures(times(7, "805r#;") + "805b#").light(0, 5), 0);
        is(figures("805k#;" + times(6, "805b#;") + "805b#").light(0, 5), 0);
        is(figures(times(7, "806r#;") + "805b#").light(0, 5), 1);
    }

    static void inAFlickerAllLightsAre0() {
        ShadowTheatre x = figures("803r#");
        flickers(x, 0, 19);
        for (int cell = 0; cell < CELLS; cell++) {
            is(x.light(0, cell), 0);
            is(x.light(19, cell), 0);
            is(x.light(1, cell), cell == 3 ? 4 : 7);
            is(x.light(18, cell), cell == 3 ? 4 : 7);
        }
    }

    static void lightTakesTheFirstAndTheLastStepAndCell() {
        ShadowTheatre x = told("800k#;831r#", times(19, "..") + "ar", "");
        is(x.light(0, 0), 0);
        is(x.light(0, 31), 4);
        is(x.light(19, 0), 7);
        is(x.light(19, 1), 0);
        is(x.light(19, 31), 4);
        is(x.covers(0, 0), 1);
        is(x.covers(19, 0), 0);
        is(x.covers(19, 31), 2);
    }

    static void lightAndCoversRefuseStepsAndCells() {
        for (int step : new int[] {-1, 20, LEAST, MOST}) {
            for (int cell : new int[] {0, 31, -1, 32}) {
                bad(x -> x.light(step, cell));
                bad(x -> x.covers(step, cell));
            }
        }
        for (int cell : new int[] {-1, 32, LEAST, MOST}) {
            bad(x -> x.light(0, cell));
            bad(x -> x.covers(0, cell));
        }
    }

    static void theLampMayBeMovedAndTheShadowWithIt() {
        ShadowTheatre x = figures("416k#");
        covered(x, 0, 15, 16);
        x.lamp(0);
        // 4 and 4 times 31, by 8; CELL 32 would be at PLACE 16, too
        covered(x, 0, 31);
        x.lamp(31);
        // 252 less 4 times 31, by 8, and less 4 times 30
        covered(x, 0, 0, 1);
        x.lamp(16);
        covered(x, 0, 15, 16);
    }

    // ---- promise 15: at

    static void atTakesFigure7AndWhat3() {
        ShadowTheatre x = told(times(7, "100k#;") + "831b.#", times(19, "..") + "hl", "");
        stands(x, 18, 7, 8, 31);
        is(x.at(18, 7, 2), 0);
        is(x.at(18, 7, 3), NONE);
        stands(x, 19, 7, 8, 30);
        is(x.at(19, 7, 2), 1);
        is(x.at(19, 7, 3), 31);
        is(x.at(0, 8, 0), BAD);
    }

    static void atRefusesStepsFiguresAndWhat() {
        for (int v : new int[] {-1, 20, LEAST, MOST}) bad(x -> x.at(v, 0, 0));
        for (int v : new int[] {-1, 2, 7, 8, LEAST, MOST}) bad(x -> x.at(0, v, 0));
        for (int v : new int[] {-1, 4, LEAST, MOST}) bad(x -> x.at(0, 0, v));
        for (int v : new int[] {-1, 8}) changesNothing(Checks::full, x -> x.at(0, v, 0), BAD, 2);
    }

    // ---- promise 16: FALSE and DARK

    static void withoutAPictureNothingIsFalse() {
        ShadowTheatre x = figures("803k#");
        for (int step = 0; step < STEPS; step++) is(x.screen(step, 0), 0);
        put(x, 2, times(32, "."));
        is(x.screen(0, 0), 0);
        flickers(x, 0);
        is(x.screen(0, 0), 0);
    }

    static void aPictureMayBeFalseByAllCells() {
        ShadowTheatre x = told("", "", times(32, "0"));
        is(x.screen(0, 0), 32);
        is(x.screen(19, 0), 32);
        flickers(x, 19);
        is(x.screen(19, 0), 0);
        put(x, 2, times(32, "7"));
        is(x.screen(0, 0), 0);
        is(x.screen(19, 0), 32);
    }

    static void cellsOfWhateverAreNotFalse() {
        ShadowTheatre x = told("803k#", "", "0.7.");
        is(x.screen(0, 0), 1);
        put(x, 2, "...0");
        is(x.screen(0, 0), 0);
        put(x, 2, "...7");
        is(x.screen(0, 0), 1);
        put(x, 2, "..7");
        is(x.screen(0, 0), 0);
    }

    static void everyLightIsUnlikeEveryOther() {
        int[] leaves = {0, 4, 2, 1};
        for (int wanted = 0; wanted < 8; wanted++) {
            ShadowTheatre x = told("800k#;801r#;802g#;803b#", "", times(5, "" + wanted));
            int like = 0;
            for (int light : new int[] {0, 4, 2, 1, 7}) if (light == wanted) like++;
            is(x.screen(0, 0), 5 - like);
            for (int c = 0; c < 4; c++) {
                put(x, 2, times(c, ".") + wanted);
                is(x.screen(0, 0), leaves[c] == wanted ? 0 : 1);
            }
        }
    }

    static void theFirstAndTheLastCellMayBeFalse() {
        ShadowTheatre x = told("", "", "0" + times(30, "7") + "0");
        is(x.screen(0, 0), 2);
        put(x, 0, "800k#");
        is(x.screen(0, 0), 1);
        put(x, 0, "831k#");
        is(x.screen(0, 0), 1);
        put(x, 0, "800k#;831k#");
        is(x.screen(0, 0), 0);
    }

    static void darkCountsCellsOfLight0Alone() {
        ShadowTheatre x = figures("800k#;801r#;802g#;803b#");
        is(x.screen(0, 1), 1);
        put(x, 0, "801r#;802g#;803b#");
        is(x.screen(0, 1), 0);
        put(x, 0, "801r###;802g###;803b###");
        // CELL 2 by red and green, 3 by all three, 4 by green and blue
        is(x.screen(0, 1), 3);
        put(x, 0, "801r#;801b#");
        is(x.screen(0, 1), 1);
    }

    static void darkIs0Or32AtTheEdges() {
        ShadowTheatre x = new ShadowTheatre();
        is(x.screen(0, 1), 0);
        flickers(x, 0);
        is(x.screen(0, 1), 32);
        is(x.screen(1, 1), 0);
        put(x, 0, "114k#####");
        is(x.screen(19, 1), 32);
    }

    static void screenTakesTheFirstAndTheLastStep() {
        ShadowTheatre x = told("805k#", times(19, "..") + "ar", ".....0");
        is(x.screen(0, 0), 0);
        is(x.screen(18, 0), 0);
        is(x.screen(19, 0), 1);
        is(x.screen(19, 1), 1);
    }

    static void screenRefusesStepsAndWhat() {
        for (int v : new int[] {-1, 20, LEAST, MOST}) for (int w = 0; w < 2; w++) {
            int what = w;
            bad(x -> x.screen(v, what));
        }
        for (int v : new int[] {-1, 2, LEAST, MOST}) bad(x -> x.screen(0, v));
    }

    // ---- promise 17: SHOWN, if one is told at least, and none is FALSE

    static void aPictureThatTellsNothingIsNotShown() {
        for (String picture : new String[] {"", ".", times(32, "."), "7x"}) {
            ShadowTheatre x = told("", "", picture);
            is(x.shown(0), NONE);
            is(x.shown(1), 0);
        }
    }

    static void aPictureThatTellsOneCellMayBeShown() {
        for (int cell = 0; cell < CELLS; cell++) {
            ShadowTheatre x = told("", "", times(cell, ".") + "7");
            is(x.shown(0), 0);
            is(x.shown(1), 20);
        }
    }

    static void oneFalseCellIsEnough() {
        for (int cell = 0; cell < CELLS; cell++) {
            ShadowTheatre x = told("", "", times(cell, "7") + "6" + times(31 - cell, "7"));
            is(x.screen(0, 0), 1);
            is(x.shown(0), NONE);
            is(x.shown(1), 0);
        }
    }

    static void shownInEachSingleStep() {
        for (int step = 0; step < STEPS; step++) {
            ShadowTheatre x = told("805k#", times(step, "..") + "ar" + (step < 19 ? "ar" : ""), "......0");
            is(x.shown(0), step);
            is(x.shown(1), 1);
        }
    }

    static void shownInTheDark() {
        ShadowTheatre x = told("", "", times(32, "0"));
        is(x.shown(0), NONE);
        flickers(x, 19);
        is(x.shown(0), 19);
        is(x.shown(1), 1);
        flickers(x, 0, 0);
        is(x.shown(0), 0);
        is(x.shown(1), 2);
    }

    static void shownRefusesWhat() {
        for (int v : new int[] {-1, 2, LEAST, MOST}) bad(x -> x.shown(v));
    }

    // ---- promise 18: TOUCH

    private static void touch(ShadowTheatre x, int step, int a, int b) {
        is(x.touched(0), step);
        is(x.touched(1), a);
        is(x.touched(2), b);
    }

    static void oneFigureTouchesNone() {
        touch(figures(""), NONE, NONE, NONE);
        touch(figures("405k######"), NONE, NONE, NONE);
    }

    static void figuresAtUnlikeDepthsDoNotTouch() {
        touch(figures("405k######;505k######"), NONE, NONE, NONE);
        touch(figures("405k######;305k######"), NONE, NONE, NONE);
        touch(figures("105k#;805k#"), NONE, NONE, NONE);
        touch(figures("105k#;105k#"), 0, 0, 1);
        touch(figures("805k#;805k#"), 0, 0, 1);
    }

    static void figuresSideBySideDoNotTouch() {
        touch(figures("405k###;408k#"), NONE, NONE, NONE);
        touch(figures("405k###;407k#"), 0, 0, 1);
        touch(figures("408k#;405k###"), NONE, NONE, NONE);
        touch(figures("407k#;405k###"), 0, 0, 1);
        touch(figures("405k######;411k#"), NONE, NONE, NONE);
        touch(figures("405k######;410k#"), 0, 0, 1);
        touch(figures("405k#;406k#"), NONE, NONE, NONE);
        touch(figures("405k#;405k#"), 0, 0, 1);
    }

    static void holesTouchToo() {
        touch(figures("405k.;405r."), 0, 0, 1);
        touch(figures("405k#.;406r."), 0, 0, 1);
        touch(figures("405k#.;406r#"), 0, 0, 1);
        touch(figures("405k.....;409g#"), 0, 0, 1);
    }

    static void figuresTouchAtPlaces0And31() {
        touch(figures("400k#;400k#"), 0, 0, 1);
        touch(figures("431k#;431k#"), 0, 0, 1);
        touch(figures("426k######;431k#"), 0, 0, 1);
        touch(figures("425k######;431k#"), NONE, NONE, NONE);
        touch(figures("431k######;429k##"), NONE, NONE, NONE);
        touch(figures("431k######;430k##"), 0, 0, 1);
    }

    static void touchedInStep0AfterItsCue() {
        touch(told("405k#;406k#", "ar", ""), 0, 0, 1);
        touch(told("405k#;405k#", "ar", ""), NONE, NONE, NONE);
        touch(told("405k#;405k#", "aral", ""), 1, 0, 1);
        touch(told("405k#;505k#", "ab", ""), 0, 0, 1);
        touch(told("405k#;305k#", "..af", ""), 1, 0, 1);
    }

    static void touchedInStep19Alone() {
        touch(told("405k#;406k#", times(19, "..") + "bl", ""), 19, 0, 1);
        touch(told("405k#;406k#", times(18, "..") + "blbr", ""), 18, 0, 1);
    }

    static void theFirstStepIsToldWithThoseThatTouchInIt() {
        touch(told("402k#;404k#;410k#;411k#", "..cr..ararar", ""), 1, 2, 3);
        touch(told("402k#;404k#;410k#;412k#", "arar..crcr", ""), 1, 0, 1);
    }

    static void theLeastFigureAndTheLeastOtherOneAreTold() {
        touch(figures("405k#;406k#;405k#;406k#"), 0, 0, 2);
        touch(figures("305k#;406k#;405k#;406k#;405k#"), 0, 1, 3);
        touch(figures("405k##;405k#;406k#"), 0, 0, 1);
        touch(figures("405k##;407k#;406k#"), 0, 0, 2);
        touch(figures("405k#;407k#;406k#;406k#;405k#"), 0, 0, 4);
    }

    static void figures6And7Touch() {
        touch(figures("100k#;200k#;300k#;400k#;500k#;600k#;731k#;731k#"), 0, 6, 7);
        touch(figures("131k#;200k#;300k#;400k#;500k#;600k#;731k#;131k#"), 0, 0, 7);
    }

    static void figuresToldBeforeDoNotTouch() {
        ShadowTheatre x = figures("405k#;405k#;405k#");
        touch(x, 0, 0, 1);
        put(x, 0, "405k#");
        touch(x, NONE, NONE, NONE);
        put(x, 0, "405k#;406k#");
        touch(x, NONE, NONE, NONE);
        put(x, 0, "");
        touch(x, NONE, NONE, NONE);
    }

    static void touchedInAFlickerToo() {
        ShadowTheatre x = told("405k#;406k#", "ar", "");
        flickers(x, 0);
        touch(x, 0, 0, 1);
    }

    static void touchedRefusesWhat() {
        for (int v : new int[] {-1, 3, LEAST, MOST}) bad(x -> x.touched(v));
    }

    // ---- promise 19: of STEPS without a FLICKER that with most of these, of like ones the least

    static void ofLikeStepsTheLeastIsDarkest() {
        is(new ShadowTheatre().darkest(), 0);
        is(figures("805k###").darkest(), 0);
        ShadowTheatre x = figures("805k###");
        flickers(x, 0, 1, 3);
        is(x.darkest(), 2);
    }

    static void aFlickerIsNotTheDarkestStep() {
        ShadowTheatre x = told("", "", "");
        for (int step = 0; step < 8; step++) {
            flickers(x, step);
            is(x.darkest(), step + 1);
        }
    }

    static void step19MayBeTheDarkest() {
        ShadowTheatre x = told("216k#", times(19, "..") + "af", "");
        is(x.darkest(), 19);
        flickers(x, 19);
        is(x.darkest(), 0);
    }

    static void theDarkestStepHasMostCellsOfLight0() {
        // red is not dark; red and green are
        ShadowTheatre x = told("805r###;808g###", "blblblbr", "");
        is(x.screen(2, 1), 3);
        is(x.darkest(), 2);
        flickers(x, 2);
        is(x.darkest(), 1);
        flickers(x, 1);
        is(x.darkest(), 3);
    }
}
