import java.util.LinkedHashMap;
import java.util.Map;

/** Promises 20 to 23: each sentence that names an edge of what one had better do. */
public final class PlanEdgesTest extends Checks {
    private static final String DARK_31 = times(31, "7") + "0";

    public static void main(String[] args) {
        runAll(PlanEdgesTest.class);
    }

    private static void hang(ShadowTheatre x, int figure, int step, int depth, int place, int falseBy) {
        is(x.hang(figure, step, 0), depth);
        is(x.hang(figure, step, 1), place);
        is(x.hang(figure, step, 2), falseBy);
    }

    private static void shift(ShadowTheatre x, int step, int lamp, int falseBy) {
        is(x.shift(step, 0), lamp);
        is(x.shift(step, 1), falseBy);
    }

    private static void more(ShadowTheatre x, int many, int first, int second) {
        is(x.more(NONE), many);
        is(x.more(0), first);
        is(x.more(1), second);
    }

    private static void leave(ShadowTheatre x, int step, int many, int first, int second) {
        is(x.leave(step, NONE), many);
        is(x.leave(step, 0), first);
        is(x.leave(step, 1), second);
    }

    // ---- promise 20: HANG

    static void ofLikeOnesHangTellsDepth1AndPlace0() {
        hang(figures("416k#"), 0, 0, 1, 0, 0);
        hang(figures("831r######"), 0, 19, 1, 0, 0);
        hang(told("416k#", "", times(32, ".")), 0, 7, 1, 0, 0);
    }

    static void hangMayBeFalseByAllCells() {
        hang(told("416k.", "", times(32, "0")), 0, 0, 1, 0, 32);
        hang(told("416k......", "", times(32, "1")), 0, 19, 1, 0, 32);
        hang(told("416k.", "", times(31, "0")), 0, 0, 1, 0, 31);
    }

    static void hangMayTellDepth1() {
        // at DEPTH 1 all rays from 16 go through PLACES 14 to 18
        hang(told("800k######", "", times(32, "0")), 0, 0, 1, 13, 0);
        hang(told("800k#####", "", times(32, "0")), 0, 0, 1, 14, 0);
    }

    static void hangMayTellDepth8() {
        // at DEPTH 7 CELLS 20 and 21 are at one PLACE, so six MARKS would COVER seven CELLS
        hang(told("100k######", "", times(16, "7") + times(6, "0") + times(10, "7")), 0, 0, 8, 16, 0);
    }

    static void hangMayTellPlace0() {
        ShadowTheatre x = told("816k#", "", "0" + times(31, "7"));
        x.lamp(0);
        hang(x, 0, 0, 4, 0, 0);
    }

    static void hangMayTellPlace31() {
        ShadowTheatre x = told("816k#", "", DARK_31);
        x.lamp(31);
        hang(x, 0, 0, 5, 31, 0);
        put(x, 0, "816k######");
        hang(x, 0, 0, 5, 31, 0);
    }

    static void hangTriesWhatIsToldSoThatCuesAreDoneFromThere() {
        ShadowTheatre x = told("816k#", "", DARK_31);
        x.lamp(31);
        String[] cues = {"af", "ab", "ar", "arar", "alarar", "afaf"};
        int[][] want = {{6, 31, 0}, {4, 31, 0}, {5, 30, 0}, {5, 29, 0}, {5, 30, 0}, {7, 31, 0}};
        for (int i = 0; i < cues.length; i++) {
            put(x, 1, cues[i]);
            hang(x, 0, 19, want[i][0], want[i][1], want[i][2]);
        }
    }

    static void aPlaceThatCuesComeToFromTwoIsToldByTheLesser() {
        ShadowTheatre x = told("816k#", "al", "0" + times(31, "7"));
        x.lamp(0);
        hang(x, 0, 0, 4, 0, 0);
        put(x, 1, "alar");
        put(x, 2, "70" + times(30, "7"));
        // from 0 and from 1 it comes to 1, at which DEPTH 6 is the first that does not COVER CELL 2
        hang(x, 0, 1, 6, 0, 0);
        put(x, 1, "....");
        hang(x, 0, 1, 6, 1, 0);
    }

    static void aDepthThatCuesComeToFromTwoIsToldByTheLesser() {
        ShadowTheatre x = told("100k######", "ab", times(16, "7") + times(6, "0") + times(10, "7"));
        hang(x, 0, 0, 7, 16, 0);
        put(x, 1, "abab");
        hang(x, 0, 1, 6, 16, 0);
        put(x, 1, "af");
        put(x, 2, times(32, "0"));
        hang(x, 0, 0, 1, 13, 0);
        put(x, 1, "afab");
        // from 1 and from 2 it comes to 2: CELLS 0 to 31 are at PLACES 12 to 20
        is(x.hang(0, 1, 0), 1);
    }

    static void hangMayTellDepth8AndCuesLeaveIt() {
        // six MARKS at DEPTH 7 COVER seven CELLS, 20 and 21 among them, at DEPTH 8 six, at DEPTH 6 eight
        ShadowTheatre x = told("100k######", "af", times(16, "7") + times(7, "0") + times(9, "7"));
        hang(x, 0, 0, 8, 16, 0);
        put(x, 1, "..af");
        hang(x, 0, 0, 7, 16, 0);
        hang(x, 0, 1, 8, 16, 0);
        // from LAMP 0 CELLS 4 and 5 are at one PLACE at DEPTH 7
        put(x, 1, "");
        put(x, 2, "7" + times(6, "0") + times(25, "7"));
        x.lamp(0);
        hang(x, 0, 0, 8, 1, 0);
    }

    static void hangIsForTheTimeBeingOfItsStep() {
        ShadowTheatre x = told("816k#", "ar" + times(18, "..") + "ar", DARK_31);
        x.lamp(31);
        hang(x, 0, 0, 5, 30, 0);
        hang(x, 0, 18, 5, 30, 0);
        hang(x, 0, 19, 5, 29, 0);
    }

    static void hangTakesItsOwnAway() {
        ShadowTheatre x = told("805k#", "", times(32, "7"));
        is(x.screen(0, 0), 1);
        hang(x, 0, 0, 1, 0, 0);
    }

    static void theOthersStayInHang() {
        ShadowTheatre x = told("805k#;800r#", "br", times(32, "7"));
        hang(x, 0, 0, 1, 0, 1);
        put(x, 2, "74777077");
        // at DEPTH 6 CELL 5 is at PLACE 8, CELL 1 at 5, no other one there
        hang(x, 0, 0, 6, 8, 0);
        hang(x, 1, 0, 6, 4, 0);
    }

    static void hangTakesTheLastFigure() {
        ShadowTheatre x = told(times(7, "800k.;") + "816k#", times(19, "..") + "hr", DARK_31);
        x.lamp(31);
        hang(x, 7, 18, 5, 31, 0);
        hang(x, 7, 19, 5, 30, 0);
        // the eighth one makes CELL 16 FALSE, and CELL 31 wants card
        hang(x, 6, 18, 1, 0, 2);
        is(x.hang(8, 0, 0), BAD);
    }

    static void inAFlickerAllHangsAreLike() {
        ShadowTheatre x = told("816k#", "", DARK_31);
        x.lamp(31);
        flickers(x, 0, 19);
        hang(x, 0, 0, 1, 0, 31);
        hang(x, 0, 19, 1, 0, 31);
        hang(x, 0, 18, 5, 31, 0);
        put(x, 2, times(32, "0"));
        hang(x, 0, 0, 1, 0, 0);
    }

    static void hangRefusesFiguresStepsAndWhat() {
        for (int v : new int[] {-1, 2, 7, 8, LEAST, MOST}) bad(x -> x.hang(v, 0, 0));
        for (int v : new int[] {-1, 20, LEAST, MOST}) bad(x -> x.hang(0, v, 0));
        for (int v : new int[] {-1, 3, LEAST, MOST}) bad(x -> x.hang(0, 0, v));
        for (int v : new int[] {-1, 8}) changesNothing(Checks::full, x -> x.hang(v, 0, 0), BAD, 2);
    }

    // ---- promise 21: SHIFT

    static void ofLikeOnesShiftTells0() {
        for (int lamp : new int[] {0, 16, 31}) {
            ShadowTheatre x = figures("416k#");
            x.lamp(lamp);
            shift(x, 0, 0, 0);
            put(x, 2, times(32, "."));
            shift(x, 19, 0, 0);
        }
    }

    static void shiftMayBeFalseByAllCells() {
        shift(told("", "", times(32, "0")), 0, 0, 32);
        shift(told("816k.", "", times(32, "3")), 19, 0, 32);
        shift(told("", "", times(31, "0")), 0, 0, 31);
    }

    static void shiftMayTell31() {
        ShadowTheatre x = told("131k#", "", times(31, ".") + "0");
        shift(x, 0, 31, 0);
        is(x.lamp(31), 16);
        is(x.screen(0, 0), 0);
        x.lamp(30);
        is(x.screen(0, 0), 1);
    }

    static void noLampBeyond31LightsAll() {
        // from each LAMP CELL 31 is dark
        shift(told("831k#", "", times(32, "7")), 0, 0, 1);
        shift(told("800k######;831k#", "", times(32, "7")), 19, 0, 7);
    }

    static void shiftMayTell0() {
        ShadowTheatre x = told("100k#", "", "0");
        shift(x, 0, 0, 0);
        x.lamp(1);
        is(x.screen(0, 0), 1);
    }

    static void shiftTellsTheLeastOfLikeOnes() {
        // at DEPTH 1 the ray to CELL 31 goes through PLACE 7 LAMP, and 35, by 8: it tells one LAMP
        ShadowTheatre x = told("130k#", "", times(31, ".") + "0");
        x.lamp(30);
        is(x.screen(0, 0), 0);
        shift(x, 0, 30, 0);
        put(x, 0, "129k#");
        shift(x, 0, 29, 0);
        put(x, 0, "430k#");
        // at DEPTH 4 through PLACE 4 LAMP, and 128, by 8: LAMPS 28 and 29
        shift(x, 0, 28, 0);
        x.lamp(29);
        shift(x, 0, 28, 0);
    }

    static void shiftIsForTheTimeBeingOfItsStep() {
        ShadowTheatre x = told("130k#", "ar" + times(18, "..") + "al", times(31, ".") + "0");
        shift(x, 0, 31, 0);
        shift(x, 18, 31, 0);
        shift(x, 19, 30, 0);
    }

    static void inAFlickerAllShiftsAreLike() {
        ShadowTheatre x = told("131k#", "", times(31, ".") + "0");
        flickers(x, 0, 19);
        shift(x, 0, 0, 0);
        shift(x, 19, 0, 0);
        shift(x, 18, 31, 0);
        put(x, 2, "7");
        shift(x, 19, 0, 1);
    }

    static void shiftRefusesStepsAndWhat() {
        for (int v : new int[] {-1, 20, LEAST, MOST}) bad(x -> x.shift(v, 0));
        for (int v : new int[] {-1, 2, LEAST, MOST}) bad(x -> x.shift(0, v));
    }

    // ---- promise 22: MORE

    private static void put(Map<String, int[]> plans, ShadowTheatre x, int step, int... plan) {
        plans.putIfAbsent(lights(x, step), plan);
    }

    private static String cue(int choice) {
        return choice == NONE ? ".." : "" + (char) ('a' + choice / 4) + "lrfb".charAt(choice % 4);
    }

    /** By the LIGHTS to which it leads, the first plan of all that MORE may tell, in the order in which it is best. */
    private static Map<String, int[]> plansOfMore(String figures, String cues, int choices) {
        Map<String, int[]> plans = new LinkedHashMap<>();
        put(plans, told(figures, cues, ""), 19, 0, NONE, NONE);
        for (int a = 0; a < choices; a++) put(plans, told(figures, cues + cue(a), ""), 19, 1, a, NONE);
        for (int a = 0; a < choices; a++) {
            for (int b = 0; b < choices; b++) put(plans, told(figures, cues + cue(a) + cue(b), ""), 19, 2, a, b);
        }
        return plans;
    }

    private static void eachPlanOfMoreIsTold(String figures, String cues, int choices) {
        for (Map.Entry<String, int[]> e : plansOfMore(figures, cues, choices).entrySet()) {
            int[] plan = e.getValue();
            more(told(figures, cues, e.getKey()), plan[0], plan[1], plan[2]);
        }
    }

    static void eachPlanOfMoreWithOneFigureIsTold() {
        eachPlanOfMoreIsTold("616k#.#", "", 4);
        eachPlanOfMoreIsTold("631k##", "", 4);
        eachPlanOfMoreIsTold("100k##", "", 4);
        eachPlanOfMoreIsTold("816r#", times(18, "al"), 4);
    }

    static void eachPlanOfMoreWithTwoFiguresIsTold() {
        eachPlanOfMoreIsTold("616k#.#;720r##", "arbfaf", 8);
        eachPlanOfMoreIsTold("805k#;806k#", "", 8);
        eachPlanOfMoreIsTold("805r#;807g#", "", 8);
    }

    static void eachPlanOfMoreWithEightFiguresIsTold() {
        String figures = "602k#;705r#;509k#;713g#;616b#;720k#;624r#;728k#";
        Map<String, int[]> plans = plansOfMore(figures, "", 32);
        is(plans.size() > 200 ? 1 : 0, 1);
        eachPlanOfMoreIsTold(figures, "", 32);
    }

    static void moreMayTellTheLastCueOfTheLastFigure() {
        // CELLS 20 and 21 are at one PLACE at DEPTH 7, so that six MARKS COVER six CELLS at DEPTH 8 alone
        ShadowTheatre x = told(times(7, "100k.;") + "716k######", "", times(16, "7") + times(6, "0") + times(10, "7"));
        more(x, 1, 31, NONE);
        put(x, 0, times(7, "100k.;") + "616k######");
        more(x, 2, 31, 31);
    }

    static void moreIsDoneBehindTheCueOfStep19() {
        ShadowTheatre x = told("805k#", times(20, "ar"), times(26, ".") + "0");
        is(x.count(4), 40);
        more(x, 1, 1, NONE);
        put(x, 2, times(25, ".") + "0");
        more(x, 0, NONE, NONE);
        put(x, 2, times(24, ".") + "0");
        more(x, 1, 0, NONE);
        put(x, 2, times(27, ".") + "0");
        more(x, 2, 1, 1);
        put(x, 2, times(23, ".") + "0");
        more(x, 2, 0, 0);
        is(x.count(1), 20);
        is(x.at(19, 0, 1), 25);
    }

    static void moreThanTwoAreNone() {
        ShadowTheatre x = told("805k#", "", "........0");
        more(x, NONE, NONE, NONE);
        put(x, 2, "0");
        more(x, NONE, NONE, NONE);
        put(x, 2, ".......0");
        more(x, 2, 1, 1);
        put(x, 2, "..0");
        // PLACE 4 at DEPTH 7
        more(x, 2, 0, 2);
    }

    static void moreNeedsAPictureThatTells() {
        more(told("805k#", "", ""), NONE, NONE, NONE);
        more(told("805k#", "", times(32, ".")), NONE, NONE, NONE);
        more(told("805k#", "", "7"), 0, NONE, NONE);
    }

    static void moreIsOfFiguresThatThereAre() {
        more(told("", "", "0"), NONE, NONE, NONE);
        more(told("", "", "7"), 0, NONE, NONE);
        more(told("", "alar", times(32, "7")), 0, NONE, NONE);
        more(told("805k#", "blbl", "......0"), 1, 1, NONE);
        more(told("800k.;805k#", "", "......0"), 1, 5, NONE);
    }

    static void inAFlickerMoreHelpsNothing() {
        ShadowTheatre x = told("805k#", "", "......0");
        flickers(x, 19);
        more(x, 0, NONE, NONE);
        put(x, 2, "......7");
        more(x, NONE, NONE, NONE);
        x.back();
        flickers(x, 0, 18);
        more(x, 0, NONE, NONE);
        put(x, 2, "......0");
        more(x, 1, 1, NONE);
    }

    static void moreRefusesAllBut0And1AndNone() {
        for (int v : new int[] {-2, 2, LEAST, MOST, BAD}) bad(x -> x.more(v));
    }

    // ---- promise 23: LEAVE

    /** The FIGURES, those left out (as bits) with holes instead of card. */
    private static String without(String[] figures, int left) {
        StringBuilder all = new StringBuilder();
        for (int f = 0; f < figures.length; f++) {
            all.append(f == 0 ? "" : ";").append((left >> f & 1) == 0 ? figures[f] : figures[f].replace('#', '.'));
        }
        return all.toString();
    }

    private static void eachPlanOfLeaveIsTold(String figures, String cues, int step) {
        String[] all = figures.split(";");
        Map<String, int[]> plans = new LinkedHashMap<>();
        put(plans, told(figures, cues, ""), step, 0, NONE, NONE);
        for (int a = 0; a < all.length; a++) put(plans, told(without(all, 1 << a), cues, ""), step, 1, a, NONE);
        for (int a = 0; a < all.length; a++) {
            for (int b = a + 1; b < all.length; b++) {
                put(plans, told(without(all, 1 << a | 1 << b), cues, ""), step, 2, a, b);
            }
        }
        for (Map.Entry<String, int[]> e : plans.entrySet()) {
            int[] plan = e.getValue();
            leave(told(figures, cues, e.getKey()), step, plan[0], plan[1], plan[2]);
        }
    }

    static void eachPlanOfLeaveIsTold() {
        String apart = "800k#;803r#;806g#;809b#;812k##;816r#.#;820g#;831k#";
        eachPlanOfLeaveIsTold(apart, "", 0);
        eachPlanOfLeaveIsTold(apart, "arbrcrdrhl", 19);
        eachPlanOfLeaveIsTold("805k#;805r#;805g#;805b#;806k#;806k#;807r#;807r#", "", 0);
        eachPlanOfLeaveIsTold("805r#;805r#", "", 7);
        eachPlanOfLeaveIsTold("831k#", times(20, "al"), 19);
    }

    static void leaveMayTellTheLastTwo() {
        ShadowTheatre x = told(times(6, "800r#;") + "805k#;806k#", "", "4....77");
        leave(x, 0, 2, 6, 7);
        put(x, 2, "4....70");
        leave(x, 0, 1, 6, NONE);
        put(x, 2, "4....07");
        leave(x, 0, 1, 7, NONE);
    }

    static void leaveMayTellTheFirstTwo() {
        leave(told("805k#;806k#;807k#", "", ".....770"), 0, 2, 0, 1);
        leave(told("805k#;806k#", "", ".....77"), 0, 2, 0, 1);
    }

    static void moreThanTwoLeftOutAreNone() {
        leave(told("805k#;805k#;805k#", "", ".....7"), 0, NONE, NONE, NONE);
        leave(told("805k#;805k#", "", ".....7"), 0, 2, 0, 1);
        leave(told("805k#", "", ".....7"), 0, 1, 0, NONE);
        leave(told("", "", ".....7"), 0, 0, NONE, NONE);
        leave(told("", "", ".....0"), 0, NONE, NONE, NONE);
    }

    static void leaveNeedsAPictureThatTells() {
        leave(told("805k#", "", ""), 0, NONE, NONE, NONE);
        leave(told("805k#", "", times(32, ".")), 0, NONE, NONE, NONE);
        leave(told("805k#", "", "7"), 0, 0, NONE, NONE);
    }

    static void leaveIsForTheTimeBeingOfItsStep() {
        ShadowTheatre x = told("805k#;806r#", "ar" + times(18, "..") + "ar", "......4");
        leave(x, 0, 1, 0, NONE);
        leave(x, 18, 1, 0, NONE);
        leave(x, 19, 0, NONE, NONE);
    }

    static void inAFlickerLeaveHelpsNothing() {
        ShadowTheatre x = told("805k#", "", ".....7");
        flickers(x, 0, 19);
        leave(x, 0, NONE, NONE, NONE);
        leave(x, 19, NONE, NONE, NONE);
        leave(x, 18, 1, 0, NONE);
        put(x, 2, ".....0");
        leave(x, 0, 0, NONE, NONE);
    }

    static void leaveRefusesStepsAndAllBut0And1AndNone() {
        for (int v : new int[] {-1, 20, LEAST, MOST}) for (int i = NONE; i < 2; i++) {
            int which = i;
            bad(x -> x.leave(v, which));
        }
        for (int v : new int[] {-2, 2, LEAST, MOST}) bad(x -> x.leave(0, v));
    }

    // ---- what is planned is not done

    static void plansChangeNothing() {
        changesNothing(Checks::rich, x -> 0 * x.hang(0, 19, 0) + 0 * x.hang(1, 3, 2), 0, 2);
        changesNothing(Checks::rich, x -> 0 * x.shift(19, 0) + 0 * x.shift(0, 1), 0, 2);
        changesNothing(Checks::rich, x -> 0 * x.more(NONE) + 0 * x.more(1), 0, 2);
        changesNothing(Checks::rich, x -> 0 * x.leave(0, NONE) + 0 * x.leave(19, 1), 0, 2);
    }
}
