import java.math.BigInteger;

/** Promises 24 to 30: each sentence that names an edge of what was seen, of stumbles and of plays. */
public final class SightEdgesTest extends Checks {
    private static final int ALL_STEPS = (1 << 20) - 1, ALL_COLOURS = 15, ALL_DEPTHS = 510;

    public static void main(String[] args) {
        runAll(SightEdgesTest.class);
    }

    private static void see(ShadowTheatre x, int step, int cell, int light) {
        x.forget();
        x.seen(step, cell, light);
    }

    // ---- promise 24: SEEN, 8 at most: in a STEP a CELL had so much LIGHT (0 to 7)

    static void eightAreSeenAndTheNinthIsNot() {
        ShadowTheatre x = figures("805k#");
        for (int n = 1; n <= 8; n++) is(x.seen(n, n, 7), n);
        is(x.seen(0, 5, 0), FULL);
        is(x.count(7), 8);
        changesNothing(Checks::full, o -> o.seen(0, 5, 0), FULL, 2);
    }

    static void theNinthSightIsNotBelieved() {
        ShadowTheatre x = figures("805k#");
        for (int n = 0; n < 8; n++) x.seen(19, 31, 7);
        x.seen(0, 5, 7);
        is(x.was(0, 0), ALL_COLOURS);
    }

    static void theEighthSightIsBelieved() {
        ShadowTheatre x = figures("805k#");
        for (int n = 0; n < 7; n++) x.seen(0, 31, 7);
        is(x.was(0, 0), ALL_COLOURS);
        x.seen(0, 5, 4);
        is(x.was(0, 0), 2);
    }

    static void badSightsAreToldAheadOfFull() {
        changesNothing(Checks::full, x -> x.seen(-1, 0, 0), BAD, 2);
        changesNothing(Checks::full, x -> x.seen(20, 0, 0), BAD, 2);
        changesNothing(Checks::full, x -> x.seen(0, -1, 0), BAD, 2);
        changesNothing(Checks::full, x -> x.seen(0, 32, 0), BAD, 2);
        changesNothing(Checks::full, x -> x.seen(0, 0, -1), BAD, 2);
        changesNothing(Checks::full, x -> x.seen(0, 0, 8), BAD, 2);
    }

    static void seenTakesTheFirstAndTheLastStepCellAndLight() {
        for (int step = 0; step < 20; step += 19) {
            for (int cell = 0; cell < 32; cell += 31) {
                for (int light = 0; light < 8; light += 7) {
                    ShadowTheatre x = figures("800k#;831k#");
                    is(x.seen(step, cell, light), 1);
                    int covering = cell == 0 ? 0 : 1;
                    is(x.was(covering, 0), light == 0 ? 1 : 0);
                    is(x.was(1 - covering, 0), light == 0 ? ALL_COLOURS : 0);
                }
            }
        }
    }

    static void seenRefusesStepsCellsAndLights() {
        for (int v : new int[] {-1, 20, LEAST, MOST}) bad(x -> x.seen(v, 0, 0));
        for (int v : new int[] {-1, 32, LEAST, MOST}) bad(x -> x.seen(0, v, 0));
        for (int v : new int[] {-1, 8, LEAST, MOST}) bad(x -> x.seen(0, 0, v));
    }

    static void eachOfEightSightsIsHeeded() {
        for (int wrong = 0; wrong < 8; wrong++) {
            ShadowTheatre x = told("805k#", times(8, "ar"), "");
            for (int n = 0; n < 8; n++) x.seen(n, 6 + n, n == wrong ? 7 : 0);
            is(x.was(0, 0), 0);
            is(x.was(0, 1), 0);
            // but for the last one, which comes out so if its CUE was not done
            is(x.never(), wrong == 7 ? 1 << 7 : 0);
        }
    }

    static void theSameMayBeSeenTwice() {
        ShadowTheatre x = figures("805k#");
        is(x.seen(0, 5, 0), 1);
        is(x.seen(0, 5, 0), 2);
        is(x.was(0, 0), 1);
    }

    static void whatCannotBothBeIsSeenAll() {
        ShadowTheatre x = told("805k#", "ar", "");
        is(x.seen(0, 5, 0), 1);
        is(x.seen(0, 5, 7), 2);
        is(x.never(), 0);
        is(x.was(0, 0), 0);
        is(x.was(0, 1), 0);
        is(x.ask(0), 0);
    }

    static void eachLightIsHeldAsItIs() {
        int[] leaves = {0, 4, 2, 1};
        for (int light = 0; light < 8; light++) {
            ShadowTheatre x = figures("805k#");
            x.seen(7, 5, light);
            int due = 0;
            for (int c = 0; c < 4; c++) if (leaves[c] == light) due |= 1 << c;
            is(x.was(0, 0), due);
        }
    }

    // ---- promise 25: All SEEN are forgotten: how many.

    static void forgetOfNothingIs0() {
        ShadowTheatre x = rich();
        is(x.forget(), 2);
        is(x.forget(), 0);
        changesNothing(ShadowTheatre::new, ShadowTheatre::forget, 0, 0);
    }

    static void forgetOfEightMakesRoom() {
        ShadowTheatre x = full();
        is(x.forget(), 8);
        is(x.count(7), 0);
        is(x.was(7, 0), ALL_COLOURS);
        for (int n = 1; n <= 8; n++) is(x.seen(0, 0, 0), n);
        is(x.seen(0, 0, 0), FULL);
    }

    // ---- promise 26: NEVER: STEPS with a CUE (not of .) each of which, had that alone not been done ..

    static void withoutCuesNoneNeverWas() {
        is(figures("805k#").never(), 0);
        is(told("805k#", times(20, ".."), "").never(), 0);
    }

    static void withNothingSeenAnyCueMayNeverHaveBeen() {
        is(told("805k#", times(20, "ar"), "").never(), ALL_STEPS);
        is(told("805k#", "ar" + times(18, "..") + "al", "").never(), 1 + (1 << 19));
        is(told("", "hr", "").never(), 1);
    }

    static void aCueOfAPointIsNoneThatNeverWas() {
        ShadowTheatre x = told("805k#", "..ar....al", "");
        is(x.never(), 2 + 16);
        x.seen(0, 5, 0);
        is(x.never(), 2 + 16);
        see(x, 1, 5, 0);
        is(x.never(), 2);
    }

    static void neverTellsStep0AndStep19() {
        ShadowTheatre x = told("805k#", "ar" + times(18, "..") + "ar", "");
        x.seen(0, 5, 0);
        is(x.never(), 1);
        see(x, 19, 6, 0);
        is(x.never(), 1 + (1 << 19));
        x.seen(18, 6, 0);
        is(x.never(), 1 << 19);
        x.seen(19, 7, 0);
        is(x.never(), 0);
    }

    static void aCueBehindAllThatWasSeenMayNeverHaveBeen() {
        ShadowTheatre x = told("805k#", times(20, "ar"), "");
        for (int step = 0; step < 20; step++) {
            see(x, step, 6 + step, 0);
            is(x.never(), ALL_STEPS - ((2 << step) - 1));
            see(x, step, 5 + step, 0);
            is(x.never(), (2 << step) - 1);
        }
    }

    static void aCueThatDoesNothingMayNeverHaveBeen() {
        ShadowTheatre x = told("800k#", "alarbrab", "");
        x.seen(19, 1, 0);
        // left at PLACE 0, a FIGURE that is not there, back at DEPTH 8
        is(x.never(), 1 + 4 + 8);
    }

    static void allThatWasSeenMustComeOut() {
        ShadowTheatre x = told("805k#", "arar", "");
        x.seen(1, 6, 0);
        is(x.never(), 3);
        x.seen(0, 5, 0);
        is(x.never(), 1);
        x.seen(0, 31, 7);
        is(x.never(), 1);
        x.seen(1, 7, 0);
        is(x.never(), 0);
    }

    static void inAFlickerNothingIsSeen() {
        ShadowTheatre x = told("805k#", "arar", "");
        flickers(x, 1);
        x.seen(1, 31, 0);
        is(x.never(), 3);
        is(x.was(0, 0), ALL_COLOURS);
        is(x.was(0, 1), ALL_DEPTHS);
        see(x, 1, 31, 7);
        is(x.never(), 0);
        is(x.was(0, 0), 0);
        is(x.was(0, 1), 0);
    }

    // ---- promise 27: COLOUR and DEEP

    static void withNothingSeenAllColoursAndDepthsMayBe() {
        ShadowTheatre x = told("805k#;116r######;831b.", "alcf", "");
        for (int f = 0; f < 3; f++) {
            is(x.was(f, 0), ALL_COLOURS);
            is(x.was(f, 1), ALL_DEPTHS);
        }
    }

    static void eachSingleColourIsTold() {
        int[] leaves = {0, 4, 2, 1};
        for (int own = 0; own < 4; own++) {
            ShadowTheatre x = figures("805" + "krgb".charAt(own) + "#");
            for (int c = 0; c < 4; c++) {
                see(x, 0, 5, leaves[c]);
                is(x.was(0, 0), 1 << c);
            }
            is(x.figure(0, 2), own);
            is(x.light(0, 5), leaves[own]);
        }
    }

    static void theColoursOfTheOthersStay() {
        ShadowTheatre x = figures("805g#;805k#");
        x.seen(0, 5, 2);
        is(x.was(1, 0), 4);
        is(x.was(0, 0), 0);
        see(x, 0, 5, 0);
        is(x.was(1, 0), 1 + 2 + 8);
        is(x.was(0, 0), ALL_COLOURS);
    }

    static void aColourIsSeenWhereTheCuesBringIt() {
        ShadowTheatre x = told("805k#", "ar" + times(18, "..") + "ar", "");
        x.seen(0, 6, 4);
        is(x.was(0, 0), 2);
        x.seen(19, 7, 4);
        is(x.was(0, 0), 2);
        x.seen(18, 6, 4);
        is(x.was(0, 0), 2);
        x.seen(19, 6, 4);
        is(x.was(0, 0), 0);
        see(x, 0, 5, 7);
        is(x.was(0, 0), ALL_COLOURS);
    }

    static void eachSingleDepthIsTold() {
        // from LAMP 0 the ray to a CELL goes through PLACE 0 while 4, and DEPTH times CELL, is below 8
        for (int depth = 1; depth <= 8; depth++) {
            ShadowTheatre x = figures("500k#");
            x.lamp(0);
            int due = 0;
            for (int d = 1; d <= 8; d++) {
                boolean like = true;
                for (int cell = 0; cell < 5; cell++) like &= 4 + d * cell < 8 == 4 + depth * cell < 8;
                if (like) due |= 1 << d;
            }
            for (int cell = 0; cell < 5; cell++) x.seen(0, cell, 4 + depth * cell < 8 ? 0 : 7);
            is(x.was(0, 1), due);
            is(due >> depth & 1, 1);
        }
    }

    static void theDepthsHaveBits1To8() {
        // 31 is the PLACE of the ray to CELL 31 from LAMP 0 at DEPTH 8 alone
        ShadowTheatre x = figures("131k#");
        x.lamp(0);
        x.seen(0, 31, 0);
        is(x.was(0, 1), 256);
        see(x, 0, 31, 7);
        is(x.was(0, 1), ALL_DEPTHS - 256);
        // and 4 of that to CELL 31 at DEPTH 1 alone
        put(x, 0, "804k#");
        see(x, 0, 31, 0);
        is(x.was(0, 1), 2);
        see(x, 0, 31, 7);
        is(x.was(0, 1), ALL_DEPTHS - 2);
    }

    static void aDepthIsAsToldAndCuesAreDoneFromThere() {
        ShadowTheatre x = told("131k#", "af", "");
        x.lamp(0);
        // DEPTH 8 is left in STEP 0
        x.seen(0, 31, 0);
        is(x.was(0, 1), 0);
        put(x, 1, "ab");
        is(x.was(0, 1), 128 + 256);
        put(x, 1, "abab");
        is(x.was(0, 1), 128 + 256);
        see(x, 1, 31, 0);
        is(x.was(0, 1), 64 + 128 + 256);
        put(x, 0, "804k#");
        put(x, 1, "af");
        see(x, 0, 31, 0);
        is(x.was(0, 1), 2 + 4);
        put(x, 1, times(20, "af"));
        see(x, 19, 31, 0);
        is(x.was(0, 1), ALL_DEPTHS);
    }

    static void wasTakesTheLastFigure() {
        ShadowTheatre x = figures(times(7, "800k.;") + "805r#");
        x.seen(0, 5, 4);
        is(x.was(7, 0), 2);
        is(x.was(6, 0), ALL_COLOURS);
        is(x.was(7, 1), 256);
        is(x.was(6, 1), ALL_DEPTHS);
        is(x.was(8, 0), BAD);
    }

    static void wasRefusesFiguresAndWhat() {
        for (int v : new int[] {-1, 2, 7, 8, LEAST, MOST}) for (int what = 0; what < 2; what++) {
            int w = what;
            bad(x -> x.was(v, w));
        }
        for (int v : new int[] {-1, 2, LEAST, MOST}) bad(x -> x.was(0, v));
        for (int v : new int[] {-1, 8}) changesNothing(Checks::full, x -> x.was(v, 0), BAD, 2);
    }

    // ---- promise 28: ASK

    static void askMayTell31() {
        // only DEPTH 8 has the FIGURE before CELL 31, none before another one
        ShadowTheatre x = figures("131k#");
        x.lamp(0);
        is(x.ask(0), 31);
    }

    static void askMayTell0() {
        ShadowTheatre x = figures("100k#");
        x.lamp(31);
        // at DEPTH 8 alone the ray to CELL 0 goes through PLACE 0
        is(x.ask(0), 0);
    }

    static void ofLikeCellsAskTellsTheLeast() {
        is(figures("816k.").ask(0), 0);
        is(figures("831k.#").ask(0), 0);
        ShadowTheatre x = figures("805k#;100k######;800k######;806k######;812k######;818k######;824k######;830k##");
        is(x.screen(0, 1), 32);
        is(x.ask(0), 0);
    }

    static void askWithNoDepthLeftTells0() {
        ShadowTheatre x = figures("116k#");
        x.seen(0, 16, 7);
        is(x.was(0, 1), 0);
        is(x.ask(0), 0);
    }

    static void askWithOneDepthLeftTells0() {
        ShadowTheatre x = figures("131k#");
        x.lamp(0);
        x.seen(0, 31, 0);
        is(x.was(0, 1), 256);
        is(x.ask(0), 0);
    }

    static void askHeedsTheDepthsThatAreLeftAlone() {
        ShadowTheatre x = figures("131k#");
        x.lamp(0);
        x.seen(0, 31, 7);
        is(x.was(0, 1), ALL_DEPTHS - 256);
        is(x.ask(0), 0);
    }

    static void askHeedsDepth1() {
        // from LAMP 0 PLACE 4 is that of CELLS 28 to 31 at DEPTH 1, 14 to 17, 10 and 11, 7 and 8, 6 and 7, 5,
        // 4 and 5 at the next ones, 4 at DEPTH 8
        ShadowTheatre x = figures("804k#");
        x.lamp(0);
        for (int cell : new int[] {5, 6, 7, 8, 10, 17}) x.seen(0, cell, 7);
        is(x.was(0, 1), 2 + 256);
        is(x.ask(0), 4);
        x.seen(0, 4, 7);
        is(x.was(0, 1), 2);
        is(x.ask(0), 0);
    }

    static void askTellsEveryLightFromEveryOther() {
        // what the others leave of CELL 31, and what is left behind black and behind glass
        String[] others = {"831r#", "831g#", "831b#"};
        for (String other : others) {
            for (char colour : "krgb".toCharArray()) {
                ShadowTheatre x = figures("131" + colour + "#;" + other);
                x.lamp(0);
                is(x.ask(0), colour == other.charAt(3) ? 0 : 31);
            }
        }
        for (char colour : "krgb".toCharArray()) {
            ShadowTheatre x = figures("131" + colour + "#");
            x.lamp(0);
            is(x.ask(0), 31);
        }
    }

    static void askedAgainItAnswersTheSame() {
        ShadowTheatre x = figures("100k#;131k#");
        for (int n = 0; n < 40; n++) {
            x.lamp(31);
            is(x.ask(0), 0);
            is(x.was(0, 1), ALL_DEPTHS);
            x.lamp(0);
            is(x.ask(1), 31);
        }
    }

    static void askGoesByEachDepthWithItsCues() {
        // PLACE 30 at DEPTH 7 comes to PLACE 31 at DEPTH 8
        ShadowTheatre x = told("130k#", "ar" + times(18, "..") + "ab", "");
        x.lamp(0);
        is(x.ask(0), 31);
        put(x, 1, "araral");
        is(x.ask(0), 30);
        put(x, 1, times(19, "..") + "ar");
        is(x.ask(0), 31);
        // each begins at PLACE 30; at 29 DEPTH 8 tells CELL 29
        put(x, 1, "al");
        is(x.ask(0), 29);
        // each goes forward, so that none comes to DEPTH 8
        put(x, 1, "araf");
        is(x.ask(0), 0);
    }

    static void askIsOfStep19() {
        ShadowTheatre x = told("130k#", times(19, "..") + "ar", "");
        x.lamp(0);
        is(x.ask(0), 31);
        put(x, 1, times(19, ".."));
        // at PLACE 30 DEPTH 8 tells CELL 30 from the others
        is(x.ask(0), 30);
    }

    static void inAFlickerOfStep19AskTells0() {
        ShadowTheatre x = figures("131k#");
        x.lamp(0);
        flickers(x, 0, 18);
        is(x.ask(0), 31);
        flickers(x, 19);
        is(x.ask(0), 0);
    }

    static void askTakesTheLastFigure() {
        ShadowTheatre x = figures(times(7, "800k.;") + "131b#");
        x.lamp(0);
        is(x.ask(7), 31);
        is(x.ask(6), 0);
        is(x.ask(8), BAD);
    }

    static void askRefusesFigures() {
        for (int v : new int[] {-1, 2, 7, 8, LEAST, MOST}) bad(x -> x.ask(v));
        for (int v : new int[] {-1, 8}) changesNothing(Checks::full, x -> x.ask(v), BAD, 2);
        is(new ShadowTheatre().ask(0), BAD);
    }

    static void whatFollowsFromWhatWasSeenChangesNothing() {
        changesNothing(Checks::rich, x -> 0 * x.never(), 0, 2);
        changesNothing(Checks::rich, x -> 0 * x.was(0, 0) + 0 * x.was(1, 1), 0, 2);
        changesNothing(Checks::rich, x -> 0 * x.ask(0) + 0 * x.ask(1), 0, 2);
        changesNothing(Checks::rich, x -> 0 * x.stumble(3, 9, 19, 0) + 0 * x.stumble(16, 0, 0, 1), 0, 2);
        changesNothing(Checks::rich, x -> 0 * x.play(3, 20, 0) + 0 * x.play(-1, 0, 1), 0, 2);
    }

    // ---- promise 29: STUMBLE

    private static void stumble(ShadowTheatre x, int c, int last, int step, long above, long below) {
        is(x.stumble(c, last, step, 0), above);
        is(x.stumble(c, last, step, 1), below);
    }

    /** As many sixteenths, so many times over, in lowest terms. */
    private static void stumblePower(ShadowTheatre x, int c, int last, int step, int sixteenths, int times) {
        BigInteger above = BigInteger.valueOf(sixteenths).pow(times);
        BigInteger below = BigInteger.valueOf(16).pow(times);
        BigInteger common = above.gcd(below);
        stumble(x, c, last, step, above.divide(common).longValueExact(), below.divide(common).longValueExact());
    }

    static void allCuesUpToTheLastOneAreDone() {
        for (int last = 0; last < 10; last++) {
            ShadowTheatre x = told("800k#", times(last + 1, "ar"), times(last + 1, ".") + "0");
            for (int c = 0; c <= 16; c++) stumblePower(x, c, last, 19, 16 - c, last + 1);
        }
    }

    static void noCueUpToTheLastOneIsDone() {
        for (int last = 0; last < 10; last++) {
            ShadowTheatre x = told("800k#", times(last + 1, "ar"), "0");
            for (int c = 0; c <= 16; c++) stumblePower(x, c, last, last, c, last + 1);
        }
    }

    static void cuesBehindTheLastOneAreDoneForSure() {
        ShadowTheatre x = told("800k#", times(20, "ar"), times(20, ".") + "0");
        for (int last = 0; last < 10; last++) stumblePower(x, 5, last, 19, 11, last + 1);
        put(x, 2, times(19, ".") + "0");
        stumble(x, 5, 0, 19, 5, 16);
        put(x, 2, times(10, ".") + "0");
        stumblePower(x, 5, 9, 19, 5, 10);
        put(x, 2, times(9, ".") + "0");
        stumble(x, 5, 9, 19, 0, 1);
    }

    static void cuesBehindTheStepAreNotDoneYet() {
        ShadowTheatre x = told("800k#", times(20, "ar"), ".0");
        stumble(x, 3, 9, 0, 13, 16);
        put(x, 2, "..0");
        stumblePower(x, 3, 9, 1, 13, 2);
        put(x, 2, times(10, ".") + "0");
        stumblePower(x, 3, 9, 9, 13, 10);
        stumble(x, 3, 9, 8, 0, 1);
        stumble(x, 3, 8, 9, BigInteger.valueOf(13).pow(9).longValueExact(), 1L << 36);
    }

    static void with0SixteenthsAllIsDone() {
        ShadowTheatre x = told("800k#", times(20, "ar"), times(10, ".") + "0");
        stumble(x, 0, 9, 9, 1, 1);
        stumble(x, 0, 0, 9, 1, 1);
        stumble(x, 0, 9, 8, 0, 1);
        stumble(x, 0, 9, 10, 0, 1);
    }

    static void with16SixteenthsNothingIsDone() {
        ShadowTheatre x = told("800k#", times(20, "ar"), "0");
        stumble(x, 16, 9, 9, 1, 1);
        stumble(x, 16, 9, 0, 1, 1);
        stumble(x, 16, 9, 10, 0, 1);
        stumble(x, 16, 0, 0, 1, 1);
        stumble(x, 16, 0, 1, 0, 1);
        put(x, 2, ".0");
        stumble(x, 16, 9, 10, 1, 1);
        stumble(x, 16, 0, 1, 1, 1);
        stumble(x, 16, 9, 9, 0, 1);
    }

    static void fractionsAreInLowestTerms() {
        ShadowTheatre x = told("800k#", "ar", ".0");
        long[][] want = {{1, 1}, {15, 16}, {7, 8}, {13, 16}, {3, 4}, {11, 16}, {5, 8}, {9, 16}, {1, 2}, {7, 16}, {3, 8},
            {5, 16}, {1, 4}, {3, 16}, {1, 8}, {1, 16}, {0, 1}};
        for (int c = 0; c <= 16; c++) stumble(x, c, 0, 0, want[c][0], want[c][1]);
    }

    static void whatCannotBeIs0By1() {
        for (int last = 0; last < 10; last++) {
            ShadowTheatre x = told("800k#", times(20, "ar"), times(31, ".") + "0");
            stumble(x, 1, last, 19, 0, 1);
            stumble(x, 15, last, 0, 0, 1);
        }
        stumble(new ShadowTheatre(), 8, 9, 19, 0, 1);
        stumble(told("800k#", "ar", ""), 8, 9, 19, 0, 1);
        stumble(told("800k#", "ar", times(32, ".")), 8, 9, 19, 0, 1);
    }

    static void whatMustBeIs1By1() {
        for (int c = 0; c <= 16; c++) {
            stumble(told("", "", "7"), c, 9, 19, 1, 1);
            stumble(told("800k#", times(20, "ar"), times(31, ".") + "7"), c, 9, 19, 1, 1);
            stumble(told("805k#", times(20, "br"), ".....0"), c, 9, 19, 1, 1);
        }
    }

    static void cuesOfAPointStumbleWithoutADifference() {
        ShadowTheatre x = told("800k#", "..ar....ar", ".0");
        stumble(x, 3, 9, 3, 13, 16);
        stumble(x, 3, 9, 19, 39, 128);
        put(x, 2, "..0");
        stumblePower(x, 3, 9, 4, 13, 2);
        put(x, 1, times(20, ".."));
        put(x, 2, "0");
        stumble(x, 3, 9, 19, 1, 1);
    }

    static void eachCueStumblesByItself() {
        ShadowTheatre x = told("805k#", "aralaral", ".....0");
        // as many to the right as to the left: none, one or both of each two
        stumble(x, 8, 3, 3, 1 + 2, 8);
        stumble(x, 4, 3, 3, (1 + 36 + 81) / 2, 128);
        stumble(x, 4, 1, 3, (1 + 9) / 2, 8);
    }

    static void aFlickerStumblesToo() {
        ShadowTheatre x = told("800k#", "ar", "0");
        flickers(x, 0, 19);
        stumble(x, 4, 0, 0, 1, 1);
        stumble(x, 4, 0, 19, 1, 1);
        stumble(x, 4, 0, 18, 1, 4);
        put(x, 2, "7");
        stumble(x, 4, 0, 0, 0, 1);
        stumble(x, 4, 0, 18, 3, 4);
    }

    static void aRefusalOfStumbleIsTheLeastLongAnd2More() {
        is(BAD_LONG, -9223372036854775806L);
        for (int v : new int[] {-1, 17, LEAST, MOST}) refused(x -> x.stumble(v, 0, 0, 0), BAD_LONG, 2);
        for (int v : new int[] {-1, 10, LEAST, MOST}) refused(x -> x.stumble(0, v, 0, 0), BAD_LONG, 2);
        for (int v : new int[] {-1, 20, LEAST, MOST}) refused(x -> x.stumble(0, 0, v, 0), BAD_LONG, 2);
        for (int v : new int[] {-1, 2, LEAST, MOST}) refused(x -> x.stumble(0, 0, 0, v), BAD_LONG, 2);
    }

    // ---- promise 30: PLAY

    /** The CUES that a SEED draws: 32 bits of a long instead of ints that wrap. */
    private static String drawn(long seed, int n, int figures) {
        StringBuilder cues = new StringBuilder();
        long lot = seed & 0xFFFFFFFFL;
        for (int i = 0; i < n && figures > 0; i++) {
            lot = (1103515245L * lot + 12345) % (1L << 32);
            cues.append((char) ('a' + lot / 65536 % figures));
            lot = (1103515245L * lot + 12345) % (1L << 32);
            cues.append("lrfb".charAt((int) (lot / 65536 % 4)));
        }
        return cues.toString();
    }

    private static void plays(String figures, String picture, int seed, int n) {
        int many = figures.isEmpty() ? 0 : figures.split(";").length;
        ShadowTheatre x = told(figures, "araralbb", picture);
        ShadowTheatre twin = told(figures, drawn(seed, n, many), picture);
        flickers(x, 6);
        flickers(twin, 6);
        is(x.play(seed, n, 0), twin.shown(1));
        is(x.play(seed, n, 1), twin.screen(19, 1));
    }

    static void playIsAsIfItsCuesWereTold() {
        String[] figures = {"", "416k##", "416k##;818r#", "416k##;818r#;717g##", "416k#;818r#;717g#;212k.#",
            "416k#;818r#;717g#;212k.#;314k#", "416k#;818r#;717g#;212k.#;314k#;820k#",
            "416k#;818r#;717g#;212k.#;314k#;820k#;822k#", "416k#;818r#;717g#;212k.#;314k#;820k#;822k#;824k#"};
        for (int seed : new int[] {0, 1, -1, 7, 12345, LEAST, MOST, LEAST + 1, 1 << 30, -1103515245, 65536}) {
            for (String f : figures) {
                for (int n : new int[] {0, 1, 2, 7, 19, 20}) {
                    plays(f, times(15, ".") + "0", seed, n);
                    plays(f, times(20, ".") + "7", seed, n);
                }
            }
        }
    }

    static void playOfNoCuesDoesNotDoThoseTold() {
        ShadowTheatre x = told("805k#", times(20, "ar"), ".....0");
        is(x.shown(1), 0);
        is(x.play(5, 0, 0), 20);
        is(x.play(5, 0, 1), 1);
    }

    static void playOf20CuesIsTakenAndOf21Refused() {
        for (int seed : new int[] {0, -1, LEAST, MOST}) {
            for (int n : new int[] {-1, 21, LEAST, MOST}) bad(x -> x.play(seed, n, 0));
            is(new ShadowTheatre().play(seed, 20, 0), 0);
            is(new ShadowTheatre().play(seed, 20, 1), 0);
        }
        for (int v : new int[] {-1, 2, LEAST, MOST}) bad(x -> x.play(0, 0, v));
    }

    static void playWithoutFiguresHasNoCues() {
        ShadowTheatre x = told("", "", "7");
        is(x.play(1, 20, 0), 20);
        is(x.play(1, 20, 1), 0);
        flickers(x, 0, 19, 19);
        is(x.play(1, 20, 0), 18);
        is(x.play(1, 20, 1), 32);
    }

    static void playMayBeShownInAllStepsOrNone() {
        ShadowTheatre x = told("805k#", "", times(31, ".") + "7");
        is(x.play(3, 20, 0), 20);
        put(x, 2, times(31, ".") + "0");
        is(x.play(3, 20, 0), 0);
        put(x, 2, "");
        is(x.play(3, 20, 0), 0);
    }

    static void theUpper16BitsAreANumberFrom0On() {
        // SEED 0: LOTS of 65536 are 0, 54236, 42756, 54885: of one FIGURE whither 0, then 1
        ShadowTheatre x = told("805k#", "", "....0");
        is(x.play(0, 1, 0), 20);
        is(x.play(0, 2, 0), 1);
        // of three FIGURES: 0, then 0
        put(x, 0, "805k#;820k#;825k#");
        is(x.play(0, 1, 0), 20);
        is(x.play(0, 2, 0), 1);
    }
}
