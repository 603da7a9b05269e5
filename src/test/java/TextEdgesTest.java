/** Promises 1 to 12: each sentence that names an edge of the texts, the lamp, the flickers. */
public final class TextEdgesTest extends Checks {
    private static final String EIGHT =
        "100k#;231r.;329g##;430b#.;500k.#;610r#.#.#.;720g######;831b......";

    public static void main(String[] args) {
        runAll(TextEdgesTest.class);
    }

    /** Of all bytes behind a text just those allowed let it go on; each other one is the FAULT. */
    private static void goesOnWith(int text, String begun, String allowed) {
        for (int half = 0; half < 256; half += 128) {
            ShadowTheatre x = new ShadowTheatre();
            more(x, text, begun);
            for (int b = half; b < half + 128; b++) {
                x.type(text, b);
                boolean well = allowed.indexOf((char) b) >= 0;
                int end = begun.length() + 1;
                int fault = x.fault(text);
                if (well) is(fault == NONE || fault == end ? 1 : 0, 1);
                else is(fault, begun.length());
                x.undo(text);
            }
        }
    }

    private static void fault(int text, String bytes, int want) {
        ShadowTheatre x = new ShadowTheatre();
        more(x, text, bytes);
        is(x.fault(text), want);
    }

    /** The FAULT of the first 0, 1, 2 .. bytes. */
    private static void faultsGrow(int text, String bytes, int... want) {
        ShadowTheatre x = new ShadowTheatre();
        is(x.fault(text), want[0]);
        for (int i = 0; i < bytes.length(); i++) {
            x.type(text, bytes.charAt(i));
            is(x.fault(text), want[i + 1]);
        }
    }

    // ---- promise 1: no FIGURES, no CUES, no PICTURE, no FLICKERS; all SHEETS are LOST; LAMP 16 at first

    static void aNewObjectHasNoTexts() {
        ShadowTheatre x = new ShadowTheatre();
        for (int what = 0; what <= 8; what++) is(x.count(what), 0);
        for (int text = 0; text < 3; text++) {
            is(x.fault(text), NONE);
            is(x.undo(text), NOT);
            is(x.wipe(text), 0);
        }
    }

    static void aNewObjectHasNoFigures() {
        ShadowTheatre x = new ShadowTheatre();
        for (int f = 0; f < 8; f++) {
            is(x.figure(f, 0), BAD);
            is(x.at(0, f, 0), BAD);
            is(x.hang(f, 0, 0), BAD);
            is(x.was(f, 0), BAD);
            is(x.ask(f), BAD);
        }
        for (int step = 0; step < STEPS; step++) is(x.covers(step, 31), 0);
        for (int what = 0; what < 3; what++) is(x.touched(what), NONE);
    }

    static void aNewObjectHasNoCuesAndNoPicture() {
        ShadowTheatre x = new ShadowTheatre();
        for (int step = 0; step < STEPS; step++) for (int what = 0; what < 2; what++) is(x.cue(step, what), NONE);
        for (int cell = 0; cell < CELLS; cell++) is(x.picture(cell), NONE);
        is(x.shown(0), NONE);
        is(x.shown(1), 0);
        is(x.never(), 0);
    }

    static void aNewObjectHasNoFlickersAndAllIsLit() {
        ShadowTheatre x = new ShadowTheatre();
        is(x.back(), NOT);
        for (int step = 0; step < STEPS; step++) {
            for (int cell = 0; cell < CELLS; cell += 31) is(x.light(step, cell), 7);
            is(x.screen(step, 0), 0);
            is(x.screen(step, 1), 0);
        }
    }

    static void aNewObjectHasSeenNothing() {
        is(new ShadowTheatre().forget(), 0);
    }

    static void allSheetsAreLostAtFirst() {
        ShadowTheatre x = new ShadowTheatre();
        for (int s = 0; s < 4; s++) is(x.lose(s), NULL);
    }

    static void theLampIsAt16AtFirst() {
        is(new ShadowTheatre().lamp(3), 16);
    }

    static void objectsShareNothing() {
        ShadowTheatre x = full();
        ShadowTheatre y = new ShadowTheatre();
        for (int what = 0; what <= 8; what++) is(y.count(what), 0);
        is(y.lamp(5), 16);
        for (int s = 0; s < 4; s++) is(y.lose(s), NULL);
        is(x.lamp(11), 11);
        is(x.lose(0), 5);
    }

    // ---- promise 2: A byte (0 to 255) comes behind a text: how many. BAD; FULL.

    static void typeTakesTheBytes0And255() {
        for (int text = 0; text < 3; text++) {
            ShadowTheatre x = new ShadowTheatre();
            is(x.type(text, 0), 1);
            is(x.type(text, 255), 2);
            is(x.count(3 + text), 2);
        }
    }

    static void typeRefusesTheBytesMinus1And256() {
        for (int t = 0; t < 3; t++) {
            int text = t;
            for (int b : new int[] {-1, 256, LEAST, MOST, 256 + 35, 35 - 256}) bad(x -> x.type(text, b));
        }
    }

    static void typeRefusesTheTextsMinus1And3() {
        for (int text : new int[] {-1, 3, LEAST, MOST}) bad(x -> x.type(text, 48));
    }

    static void theBytesComeInTheirOrder() {
        ShadowTheatre x = told("123g#.", "br", "12");
        is(x.figure(0, 0), 1);
        is(x.figure(0, 1), 23);
        is(x.figure(0, 4), 1);
        is(x.figure(0, 5), 0);
        is(x.cue(0, 0), 1);
        is(x.picture(0), 1);
        is(x.picture(1), 2);
    }

    static void figuresAreATextOfUpTo87Bytes() {
        holdsUpTo(0);
    }

    static void cuesAreATextOfUpTo40Bytes() {
        holdsUpTo(1);
    }

    static void thePictureIsATextOfUpTo32Bytes() {
        holdsUpTo(2);
    }

    private static void holdsUpTo(int text) {
        ShadowTheatre x = new ShadowTheatre();
        for (int n = 1; n <= ROOM[text]; n++) is(x.type(text, FULL_TEXT[text].charAt(n - 1)), n);
        is(x.fault(text), NONE);
        is(x.type(text, '.'), FULL);
        is(x.count(3 + text), ROOM[text]);
        is(x.fault(text), NONE);
    }

    static void aTextWithAFaultIsFullOnlyAtItsEnd() {
        for (int text = 0; text < 3; text++) {
            ShadowTheatre x = new ShadowTheatre();
            for (int n = 1; n <= ROOM[text]; n++) is(x.type(text, 'x'), n);
            is(x.type(text, 'x'), FULL);
            is(x.fault(text), 0);
        }
    }

    static void aFullTextLeavesTheOthersRoom() {
        for (int text = 0; text < 3; text++) {
            ShadowTheatre x = new ShadowTheatre();
            more(x, text, FULL_TEXT[text]);
            is(x.type((text + 1) % 3, '.'), 1);
            is(x.type((text + 2) % 3, '.'), 1);
        }
    }

    static void typeIntoAFullTextChangesNothing() {
        for (int t = 0; t < 3; t++) {
            int text = t;
            for (int b : new int[] {'.', '#', ';', 0}) changesNothing(Checks::full, x -> x.type(text, b), FULL, 2);
        }
    }

    static void aBadByteIsToldAheadOfFull() {
        for (int t = 0; t < 3; t++) {
            int text = t;
            for (int b : new int[] {-1, 256}) changesNothing(Checks::full, x -> x.type(text, b), BAD, 2);
        }
    }

    // ---- promise 3: A text is empty: how many bytes it had. BAD.

    static void wipeOfAnEmptyTextAnswers0() {
        for (int text = 0; text < 3; text++) is(new ShadowTheatre().wipe(text), 0);
    }

    static void wipeOfAFullTextAnswersAllAndMakesRoom() {
        for (int text = 0; text < 3; text++) {
            ShadowTheatre x = full();
            is(x.wipe(text), ROOM[text]);
            is(x.count(3 + text), 0);
            is(x.wipe(text), 0);
            is(x.type(text, '.'), 1);
        }
    }

    static void wipeEmptiesThatTextAlone() {
        for (int text = 0; text < 3; text++) {
            ShadowTheatre x = full();
            x.wipe(text);
            for (int other = 0; other < 3; other++) is(x.count(3 + other), other == text ? 0 : ROOM[other]);
            is(x.count(0), text == 0 ? 0 : 8);
            is(x.count(1), text == 1 ? 0 : 20);
            is(x.count(2), text == 2 ? 0 : 28);
            is(x.count(6), 8);
            is(x.count(7), 8);
            is(x.count(8), 2);
            is(x.lamp(0), 11);
        }
    }

    static void wipeEndsAFault() {
        for (int text = 0; text < 3; text++) {
            ShadowTheatre x = new ShadowTheatre();
            x.type(text, 'x');
            is(x.fault(text), 0);
            is(x.wipe(text), 1);
            is(x.fault(text), NONE);
        }
    }

    static void wipeRefusesTheTextsMinus1And3() {
        for (int text : new int[] {-1, 3, LEAST, MOST}) bad(x -> x.wipe(text));
    }

    // ---- promise 4: The last byte of a text is undone: how many are left. BAD; NOT: it is empty.

    static void undoOfAnEmptyTextIsNot() {
        for (int t = 0; t < 3; t++) {
            int text = t;
            changesNothing(ShadowTheatre::new, x -> x.undo(text), NOT, 0);
            changesNothing(() -> { ShadowTheatre x = rich(); x.wipe(text); return x; }, x -> x.undo(text), NOT, 2);
        }
    }

    static void undoOfASingleByteLeaves0() {
        for (int text = 0; text < 3; text++) {
            ShadowTheatre x = new ShadowTheatre();
            x.type(text, '.');
            is(x.undo(text), 0);
            is(x.count(3 + text), 0);
            is(x.undo(text), NOT);
        }
    }

    static void undoOfAFullTextMakesRoomForOne() {
        for (int text = 0; text < 3; text++) {
            ShadowTheatre x = full();
            is(x.undo(text), ROOM[text] - 1);
            is(x.type(text, '.'), ROOM[text]);
            is(x.type(text, '.'), FULL);
        }
    }

    static void undoTakesTheLastByte() {
        ShadowTheatre x = told("123g#.", "brcf", "12");
        is(x.undo(0), 5);
        is(x.figure(0, 3), 1);
        is(x.figure(0, 4), 1);
        x.undo(1);
        is(x.undo(1), 2);
        is(x.cue(0, 0), 1);
        is(x.cue(1, 0), NONE);
        is(x.undo(2), 1);
        is(x.picture(0), 1);
        is(x.picture(1), NONE);
    }

    static void undoEndsAFaultAndWhatWasToldIsBack() {
        ShadowTheatre x = told("805k#;", "arx", "70x");
        is(x.count(0) + x.count(1) + x.count(2), 0);
        for (int text = 0; text < 3; text++) x.undo(text);
        is(x.figure(0, 1), 5);
        is(x.cue(0, 1), 1);
        is(x.picture(0), 7);
        is(x.picture(1), 0);
    }

    static void undoMayMakeAFault() {
        ShadowTheatre x = told("805k#", "ar", "7");
        x.undo(0);
        is(x.fault(0), 4);
        is(x.count(0), 0);
        x.undo(1);
        is(x.fault(1), 1);
        is(x.count(1), 0);
        x.undo(2);
        is(x.fault(2), NONE);
    }

    static void undoRefusesTheTextsMinus1And3() {
        for (int text : new int[] {-1, 3, LEAST, MOST}) bad(x -> x.undo(text));
    }

    static void aBadTextIsToldAheadOfNot() {
        for (int text : new int[] {-1, 3}) changesNothing(ShadowTheatre::new, x -> x.undo(text), BAD, 0);
    }

    // ---- promise 5: the place of the first byte with which it cannot go on (an empty one is well)

    static void anEmptyTextIsWell() {
        for (int text = 0; text < 3; text++) fault(text, "", NONE);
    }

    static void aFullTextIsWell() {
        for (int text = 0; text < 3; text++) fault(text, FULL_TEXT[text], NONE);
    }

    static void ofATextThatIsNotEndedTheFaultIsItsEnd() {
        faultsGrow(0, "831k#", NONE, 1, 2, 3, 4, NONE);
        faultsGrow(0, "100b......;231r.#", NONE, 1, 2, 3, 4, NONE, NONE, NONE, NONE, NONE, NONE, 11, 12, 13, 14, 15, NONE, NONE);
        faultsGrow(1, "ar..hb", NONE, 1, NONE, 3, NONE, 5, NONE);
        faultsGrow(2, "07.", NONE, NONE, NONE, NONE);
    }

    static void behindASemicolonTheFaultIsTheEnd() {
        fault(0, "800k#;", 6);
        fault(0, "800k######;", 11);
        fault(0, "800k#;800k#;", 12);
    }

    static void theFirstByteThatIsWrongIsTheFault() {
        faultsGrow(0, "80x800k#;", NONE, 1, 2, 2, 2, 2, 2, 2, 2, 2);
        faultsGrow(1, "arx.ar", NONE, 1, NONE, 2, 2, 2, 2);
        faultsGrow(2, "7.8.9", NONE, NONE, NONE, 2, 2, 2);
    }

    static void theDepthIsAFigure1To8() {
        goesOnWith(0, "", "12345678");
        goesOnWith(0, "800k#;", "12345678");
    }

    static void thePlaceBeginsWithAFigure0To3() {
        goesOnWith(0, "8", "0123");
        goesOnWith(0, "800k#;1", "0123");
    }

    static void thePlaceEndsWithAnyFigureUpTo31() {
        for (char ten : "012".toCharArray()) goesOnWith(0, "8" + ten, "0123456789");
        goesOnWith(0, "83", "01");
        goesOnWith(0, "800k#;13", "01");
    }

    static void thePlaceAbove31IsAFaultAtItsSecondFigure() {
        for (char one : "23456789".toCharArray()) fault(0, "83" + one + "k#", 2);
        fault(0, "831k#;132k#", 8);
        fault(0, "840k#", 1);
    }

    static void theColourIsKROrGOrB() {
        goesOnWith(0, "800", "krgb");
        goesOnWith(0, "831", "krgb");
    }

    static void aFigureHasOneMarkAtLeast() {
        goesOnWith(0, "800k", "#.");
        fault(0, "800k", 4);
        fault(0, "800k;", 4);
        fault(0, "800k#;800k", 10);
        fault(0, "800k#;800k;", 10);
    }

    static void behindOneToFiveMarksMayStandAMarkOrASemicolon() {
        for (int marks = 1; marks <= 5; marks++) goesOnWith(0, "800k" + times(marks, "."), "#.;");
    }

    static void theSeventhMarkIsAFault() {
        goesOnWith(0, "800k######", ";");
        fault(0, "800k######", NONE);
        fault(0, "800k#######", 10);
        fault(0, "800k.......", 10);
        fault(0, "800k#;800k######.", 16);
    }

    static void theFirstByteOfANinthFigureIsAFault() {
        fault(0, EIGHT, NONE);
        fault(0, EIGHT + ";", EIGHT.length() + 1);
        goesOnWith(0, EIGHT.substring(0, EIGHT.length() - 5), "#.;");
        fault(0, times(7, "100k#;") + "100k#;1", 48);
        fault(0, times(9, "100k#;"), 48);
        goesOnWith(0, times(8, "100k#;"), "");
    }

    static void behindEightFiguresASemicolonIsOnlyNotEnded() {
        fault(0, times(8, "100k#;"), 48);
        goesOnWith(0, times(7, "100k#;") + "100k#", "#.;");
    }

    static void aSemicolonStandsBetweenFiguresAlone() {
        fault(0, ";", 0);
        fault(0, ";800k#", 0);
        fault(0, "800k#;;800k#", 6);
        fault(0, "8;", 1);
        fault(0, "80;", 2);
        fault(0, "800;", 3);
        fault(0, "800k#800k#", 5);
    }

    static void aCueBeginsWithALetterAToHOrAPoint() {
        goesOnWith(1, "", "abcdefgh.");
        goesOnWith(1, "ar", "abcdefgh.");
        goesOnWith(1, "..", "abcdefgh.");
        goesOnWith(1, times(19, "hb"), "abcdefgh.");
    }

    static void aLetterIsFollowedByWhither() {
        goesOnWith(1, "a", "lrfb");
        goesOnWith(1, "h", "lrfb");
        goesOnWith(1, times(19, "..") + "h", "lrfb");
    }

    static void aPointIsFollowedByAPoint() {
        goesOnWith(1, ".", ".");
        goesOnWith(1, times(19, "al") + ".", ".");
    }

    static void aCueThatIsNotEndedIsAFaultAtTheEnd() {
        fault(1, "a", 1);
        fault(1, ".", 1);
        fault(1, times(19, "ar") + "a", 39);
        fault(1, times(20, "ar"), NONE);
    }

    static void aCellOfThePictureIsAFigure0To7OrAPoint() {
        goesOnWith(2, "", "01234567.");
        goesOnWith(2, "7", "01234567.");
        goesOnWith(2, times(31, "."), "01234567.");
    }

    static void faultRefusesTheTextsMinus1And3() {
        for (int text : new int[] {-1, 3, LEAST, MOST}) bad(x -> x.fault(text));
    }

    static void theFaultOfOneTextIsNotThatOfAnother() {
        for (int text = 0; text < 3; text++) {
            ShadowTheatre x = rich();
            put(x, text, "x");
            for (int other = 0; other < 3; other++) is(x.fault(other), other == text ? 0 : NONE);
            is(x.count(0), text == 0 ? 0 : 2);
            is(x.count(1), text == 1 ? 0 : 3);
            is(x.count(2), text == 2 ? 0 : 2);
        }
    }

    // ---- with a FAULT a text is as if it was empty

    static void figuresWithAFaultAreNotThere() {
        for (String broken : new String[] {"816k#;", "816k#######", "816k#;8", "816k#;832k#", "816k#;816k#x", "816k#;816k"}) {
            ShadowTheatre x = told(broken, "ar", "................0");
            x.seen(0, 16, 7);
            is(x.count(0), 0);
            is(x.figure(0, 0), BAD);
            is(x.at(0, 0, 0), BAD);
            is(x.covers(5, 16), 0);
            is(x.light(5, 16), 7);
            is(x.hang(0, 0, 0), BAD);
            is(x.was(0, 0), BAD);
            is(x.ask(0), BAD);
            is(x.touched(0), NONE);
            is(x.more(NONE), NONE);
            is(x.play(1, 20, 1), 0);
            is(x.never(), 1);
        }
    }

    static void cuesWithAFaultAreNone() {
        for (String broken : new String[] {"arar.", "arara", "ararax", "ararx", "arar.r"}) {
            ShadowTheatre x = told("805k#", broken, ".....0");
            is(x.count(1), 0);
            for (int what = 0; what < 2; what++) is(x.cue(0, what), NONE);
            is(x.at(19, 0, 1), 5);
            is(x.shown(1), 20);
            is(x.never(), 0);
            is(x.stumble(8, 9, 19, 0), 1);
        }
    }

    static void aPictureWithAFaultTellsNothing() {
        for (String broken : new String[] {"0x", "0 ", "08", "0/", "07.x0"}) {
            ShadowTheatre x = told("800r#", "", broken);
            is(x.count(2), 0);
            is(x.picture(0), NONE);
            is(x.screen(0, 0), 0);
            is(x.shown(0), NONE);
            is(x.hang(0, 0, 2), 0);
            is(x.shift(0, 1), 0);
            is(x.more(NONE), NONE);
            is(x.leave(0, NONE), NONE);
            is(x.stumble(0, 0, 0, 0), 0);
            is(x.play(1, 1, 0), 0);
        }
    }

    // ---- promise 6: figure

    static void eightFiguresAre0To7() {
        ShadowTheatre x = figures(EIGHT);
        is(x.count(0), 8);
        int[][] want = {{1, 0, 0, 1}, {2, 31, 1, 1}, {3, 29, 2, 2}, {4, 30, 3, 2}, {5, 0, 0, 2}, {6, 10, 1, 6}, {7, 20, 2, 6}, {8, 31, 3, 6}};
        for (int f = 0; f < 8; f++) for (int what = 0; what < 4; what++) is(x.figure(f, what), want[f][what]);
        is(x.figure(8, 0), BAD);
        is(x.figure(-1, 0), BAD);
    }

    static void figureRefusesThoseThatAreNotThere() {
        ShadowTheatre x = figures("100k#;200k#;300k#");
        is(x.figure(2, 0), 3);
        for (int f = 3; f < 9; f++) is(x.figure(f, 0), BAD);
        for (int f : new int[] {-1, 2, 7, 8, LEAST, MOST}) bad(o -> o.figure(f, 0));
        for (int f : new int[] {-1, 8, LEAST, MOST}) changesNothing(Checks::full, o -> o.figure(f, 0), BAD, 2);
    }

    static void figureTakesWhat0To9() {
        ShadowTheatre x = figures("305g#.#.#.");
        int[] want = {3, 5, 2, 6, 1, 0, 1, 0, 1, 0};
        for (int what = 0; what < 10; what++) is(x.figure(0, what), want[what]);
        for (int what : new int[] {-1, 10, LEAST, MOST}) bad(o -> o.figure(0, what));
    }

    static void marksThatAreNotThereAreNone() {
        for (int marks = 1; marks <= 6; marks++) {
            ShadowTheatre x = figures("100k" + times(marks, ".") + ";100k" + times(marks, "#"));
            is(x.figure(0, 3), marks);
            for (int mark = 0; mark < 6; mark++) {
                is(x.figure(0, 4 + mark), mark < marks ? 0 : NONE);
                is(x.figure(1, 4 + mark), mark < marks ? 1 : NONE);
            }
        }
    }

    static void fewerMarksToldAnewLeaveNothingOfTheOldOnes() {
        ShadowTheatre x = figures("100k######");
        put(x, 0, "100k.");
        for (int mark = 0; mark < 6; mark++) is(x.figure(0, 4 + mark), mark == 0 ? 0 : NONE);
        is(x.at(0, 0, 2), 0);
    }

    static void everyDepthPlaceAndColourIsToldAsItIs() {
        for (int depth = 1; depth <= 8; depth++) {
            for (int place = 0; place < 32; place++) {
                int colour = (depth + place) % 4;
                ShadowTheatre x = figures("" + depth + place / 10 + place % 10 + "krgb".charAt(colour) + "#");
                is(x.figure(0, 0), depth);
                is(x.figure(0, 1), place);
                is(x.figure(0, 2), colour);
            }
        }
    }

    static void figureTellsWhatIsToldAndNotWhatBecomesOfIt() {
        ShadowTheatre x = told("416k#", "arabarab", "7777");
        x.lamp(0);
        x.hang(0, 3, 0);
        x.was(0, 0);
        x.was(0, 1);
        x.at(19, 0, 0);
        is(x.figure(0, 0), 4);
        is(x.figure(0, 1), 16);
        is(x.figure(0, 2), 0);
    }

    // ---- promise 7: cue

    static void theFirstAndTheLastCueAreTold() {
        ShadowTheatre x = told("", "al" + times(18, "..") + "hb", "");
        is(x.cue(0, 0), 0);
        is(x.cue(0, 1), 0);
        is(x.cue(19, 0), 7);
        is(x.cue(19, 1), 3);
        is(x.count(1), 2);
    }

    static void aPointAndNoCueAreNone() {
        ShadowTheatre x = told("", "..al", "");
        for (int what = 0; what < 2; what++) {
            is(x.cue(0, what), NONE);
            is(x.cue(2, what), NONE);
            is(x.cue(19, what), NONE);
        }
    }

    static void everyFigureAndWhitherIsToldAsItIs() {
        for (int f = 0; f < 8; f++) {
            ShadowTheatre x = told("", "" + (char) ('a' + f) + 'l' + (char) ('a' + f) + 'r' + (char) ('a' + f) + 'f'
                    + (char) ('a' + f) + 'b', "");
            for (int way = 0; way < 4; way++) {
                is(x.cue(way, 0), f);
                is(x.cue(way, 1), way);
            }
        }
    }

    static void cueRefusesStepsAndWhat() {
        for (int step : new int[] {-1, 20, LEAST, MOST}) for (int what = 0; what < 2; what++) {
            int w = what;
            bad(x -> x.cue(step, w));
        }
        for (int what : new int[] {-1, 2, LEAST, MOST}) bad(x -> x.cue(0, what));
    }

    // ---- promise 8: picture

    static void theFirstAndTheLastCellAreTold() {
        ShadowTheatre x = told("", "", "7" + times(30, ".") + "0");
        is(x.picture(0), 7);
        for (int cell = 1; cell < 31; cell++) is(x.picture(cell), NONE);
        is(x.picture(31), 0);
    }

    static void laterCellsAreWhatever() {
        ShadowTheatre x = told("", "", "012");
        for (int cell = 0; cell < 3; cell++) is(x.picture(cell), cell);
        for (int cell = 3; cell < CELLS; cell++) is(x.picture(cell), NONE);
    }

    static void everyLightOfEveryCellIsToldAsItIs() {
        for (int turn = 0; turn < 8; turn++) {
            ShadowTheatre x = new ShadowTheatre();
            for (int cell = 0; cell < CELLS; cell++) x.type(2, '0' + (cell * 3 + turn) % 8);
            for (int cell = 0; cell < CELLS; cell++) is(x.picture(cell), (cell * 3 + turn) % 8);
        }
    }

    static void pictureRefusesTheCellsMinus1And32() {
        for (int cell : new int[] {-1, 32, LEAST, MOST}) {
            bad(x -> x.picture(cell));
            changesNothing(Checks::full, x -> x.picture(cell), BAD, 2);
        }
    }

    // ---- promise 9: LAMP: what it was. BAD.

    static void theLampGoesTo0And31() {
        ShadowTheatre x = new ShadowTheatre();
        is(x.lamp(0), 16);
        is(x.lamp(31), 0);
        is(x.lamp(31), 31);
        is(x.lamp(16), 31);
    }

    static void theLampRefusesMinus1And32() {
        for (int v : new int[] {-1, 32, LEAST, MOST}) bad(x -> x.lamp(v));
    }

    // ---- promises 10 and 11: FLICKERS, 8 at most

    static void eightFlickersAreTakenAndTheNinthIsNot() {
        ShadowTheatre x = new ShadowTheatre();
        for (int n = 1; n <= 8; n++) is(x.flicker(20 - n), n);
        is(x.flicker(0), FULL);
        is(x.count(6), 8);
        is(x.light(0, 0), 7);
        changesNothing(Checks::full, o -> o.flicker(0), FULL, 2);
    }

    static void theStepsOfFlickersAre0To19() {
        ShadowTheatre x = new ShadowTheatre();
        is(x.flicker(0), 1);
        is(x.flicker(19), 2);
        for (int step = 0; step < STEPS; step++) is(x.light(step, 7), step == 0 || step == 19 ? 0 : 7);
        for (int step : new int[] {-1, 20, LEAST, MOST}) bad(o -> o.flicker(step));
    }

    static void aBadStepIsToldAheadOfFullFlickers() {
        for (int step : new int[] {-1, 20}) changesNothing(Checks::full, x -> x.flicker(step), BAD, 2);
    }

    static void aStepMayFlickerTwice() {
        ShadowTheatre x = new ShadowTheatre();
        is(x.flicker(4), 1);
        is(x.flicker(4), 2);
        is(x.back(), 1);
        is(x.light(4, 0), 0);
        is(x.back(), 0);
        is(x.light(4, 0), 7);
    }

    static void backUndoesTheLastFlicker() {
        ShadowTheatre x = new ShadowTheatre();
        flickers(x, 9, 3, 12);
        is(x.back(), 2);
        is(x.light(12, 0), 7);
        is(x.light(3, 0), 0);
        is(x.back(), 1);
        is(x.light(3, 0), 7);
        is(x.light(9, 0), 0);
    }

    static void backWithoutAFlickerIsNot() {
        changesNothing(ShadowTheatre::new, ShadowTheatre::back, NOT, 0);
        changesNothing(() -> { ShadowTheatre x = rich(); x.back(); x.back(); return x; }, ShadowTheatre::back, NOT, 2);
    }

    static void backOfEightMakesRoomForOne() {
        ShadowTheatre x = full();
        is(x.back(), 7);
        is(x.flicker(19), 8);
        is(x.flicker(19), FULL);
    }

    // ---- promise 12: its items, as long as each may be and there is room: how many came. BAD; NULL.

    static void readOfASheetWithoutItemsBrings0() {
        for (int form = 0; form < 3; form++) {
            ShadowTheatre x = new ShadowTheatre();
            x.sheet(1, form, 0);
            is(x.read(1), 0);
            is(x.count(6), 0);
        }
    }

    static void readTakesTheSteps0And19() {
        for (int form = 0; form < 3; form++) {
            ShadowTheatre x = new ShadowTheatre();
            x.sheet(3, form, 2);
            x.lay(3, form, 1, 19);
            is(x.read(3), 2);
            for (int step = 0; step < STEPS; step++) is(x.light(step, 0), step == 0 || step == 19 ? 0 : 7);
        }
    }

    static void readStopsAtAnItemThatIsNoStep() {
        for (int item : new int[] {-1, 20, LEAST, MOST, 256, 65536}) {
            ShadowTheatre x = new ShadowTheatre();
            row(x, 0, 5, 6, item, 7);
            is(x.read(0), 2);
            is(x.count(6), 2);
            is(x.light(7, 0), 7);
            is(x.light(0, 0), 7);
            row(x, 0, item, 7);
            is(x.read(0), 0);
            is(x.count(6), 2);
        }
    }

    static void readStopsWhenThereIsNoRoom() {
        ShadowTheatre x = new ShadowTheatre();
        row(x, 0, 1, 2, 3, 4, 5, 6, 7, 8, 9);
        is(x.read(0), 8);
        is(x.light(8, 0), 0);
        is(x.light(9, 0), 7);
        is(x.read(0), 0);
        is(x.count(6), 8);
        x.back();
        is(x.read(0), 1);
        is(x.light(1, 0), 0);
        is(x.light(8, 0), 7);
    }

    static void readOf60ItemsTakes8() {
        ShadowTheatre x = new ShadowTheatre();
        x.sheet(0, 0, 60);
        is(x.read(0), 8);
        is(x.count(6), 8);
    }

    static void readBringsTheItemsInTheirOrder() {
        ShadowTheatre x = new ShadowTheatre();
        row(x, 0, 11, 4);
        x.read(0);
        x.back();
        is(x.light(4, 0), 7);
        is(x.light(11, 0), 0);
    }

    static void readLeavesTheSheetAsItIs() {
        ShadowTheatre x = new ShadowTheatre();
        row(x, 0, 11, 4, 33);
        x.read(0);
        rowIs(x, 0, 11, 4, 33);
    }

    static void readRefusesBadAndLostSheets() {
        for (int s : new int[] {-1, 4, LEAST, MOST}) bad(x -> x.read(s));
        found(x -> x.read(3), NULL);
        changesNothing(Checks::full, x -> x.read(3), NULL, 1);
    }
}
