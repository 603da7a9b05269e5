/**
 * A shadow theatre: figures of card before a lamp, moved step by step by cues, and the picture on
 * the screen. The document (../shared/DOC.md) tells what each call answers; words in capitals are its.
 */
public final class ShadowTheatre {
    public static final int NONE = -1, BAD = -2, NOT = -3, FULL = -4;

    private static final int CELLS = 32, LIGHTS = 8, DEPTHS = 8, PLACES = 32, LAMPS = 32, STEPS = 20;
    private static final int FIGURES = 8, MARKS = 6, COLOURS = 4, WAYS = 4, FLICKERS = 8, SIGHTS = 8;
    private static final int LAST_STEP = STEPS - 1, LOOSE_STEPS = 10, SIXTEENTHS = 16, MOST_HALVINGS = 64;
    private static final int SHEETS = 4, FORMS = 3, ITEMS = 60;
    private static final int FIGURE_BYTES = 87, CUE_BYTES = 40, PICTURE_BYTES = 32;
    private static final int ALL_CELLS = -1;
    private static final int RED = 1, GREEN = 2, BLUE = 3;
    private static final int LEFT = 0, RIGHT = 1, FORWARD = 2, BACKWARD = 3;
    private static final int LEAST_INT = 1 << 31;
    private static final long LEAST_LONG = 1L << 63;
    private static final int NULL = 1, INDEX = 2, CAST = 3, STORE = 4, SIZE = 5;

    private final Row figureText;
    private final Row cueText;
    private final Row pictureText;
    private final Show show;
    private final Planner planner;
    private final Witness witness;
    private final Chance chance;
    private final Sheet[] sheets;
    private int finding;

    /** Numbers one behind the other, up to a room that never grows. */
    private static final class Row {
        private final int[] items;
        private int count;

        Row(int room) {
            items = new int[Math.max(room, 0)];
        }

        boolean isFull() {
            return count >= items.length;
        }

        int add(int item) {
            if (count >= 0 && count < items.length) {
                items[count] = item;
                count++;
            }
            return count;
        }

        int drop() {
            if (count > 0) {
                count--;
            }
            return count;
        }

        int clear() {
            int had = count;
            count = 0;
            return had;
        }

        int item(int i) {
            return i >= 0 && i < count && i < items.length ? items[i] : NONE;
        }
    }

    /** The FIGURES as told. */
    private static final class Troupe {
        /** The DEPTH, two figures of the PLACE, the colour, one MARK. */
        private static final int LEAST_BYTES = 5;

        private final int[] depth = new int[FIGURES];
        private final int[] place = new int[FIGURES];
        private final int[] colour = new int[FIGURES];
        private final int[] marks = new int[FIGURES];
        private final int[] card = new int[FIGURES];
        private int count;
        private int faultPlace = NONE;

        void parse(Row text) {
            int figure = 0;
            int part = 0;
            faultPlace = NONE;
            for (int i = 0; i < text.count && faultPlace == NONE; i++) {
                int b = text.item(i);
                if (b == ';' && part >= LEAST_BYTES) {
                    figure++;
                    part = 0;
                } else if (takes(figure, part, b)) {
                    part++;
                } else {
                    faultPlace = i;
                }
            }
            if (faultPlace == NONE && text.count > 0 && part < LEAST_BYTES) {
                faultPlace = text.count;
            }
            count = faultPlace == NONE && text.count > 0 ? figure + 1 : 0;
        }

        private boolean takes(int figure, int part, int b) {
            if (figure < 0 || figure >= FIGURES) {
                return false;
            }
            switch (part) {
                case 0:
                    depth[figure] = b - '0';
                    marks[figure] = 0;
                    card[figure] = 0;
                    return b >= '1' && b <= '8';
                case 1:
                    place[figure] = 10 * (b - '0');
                    return b >= '0' && b <= '3';
                case 2:
                    place[figure] += b - '0';
                    return b >= '0' && b <= '9' && place[figure] < PLACES;
                case 3:
                    colour[figure] = "krgb".indexOf((char) b);
                    return colour[figure] >= 0;
                default:
                    return takesMark(figure, b);
            }
        }

        private boolean takesMark(int figure, int b) {
            if (marks[figure] >= MARKS || b != '#' && b != '.') {
                return false;
            }
            if (b == '#') {
                card[figure] |= 1 << marks[figure];
            }
            marks[figure]++;
            return true;
        }

        boolean has(int figure) {
            return figure >= 0 && figure < count && figure < FIGURES;
        }

        int detail(int figure, int what) {
            if (!has(figure)) {
                return NONE;
            }
            switch (what) {
                case 0:
                    return depth[figure];
                case 1:
                    return place[figure];
                case 2:
                    return colour[figure];
                case 3:
                    return marks[figure];
                default:
                    return what - 4 < marks[figure] ? card[figure] >> (what - 4) & 1 : NONE;
            }
        }
    }

    /** One CUE or none for each STEP. */
    private static final class Cues {
        private final int[] figure = new int[STEPS];
        private final int[] whither = new int[STEPS];
        private int count;
        private int faultPlace = NONE;

        void parse(Row text) {
            faultPlace = NONE;
            for (int i = 0; i < text.count && faultPlace == NONE; i++) {
                if (!takes(i, text.item(i))) {
                    faultPlace = i;
                }
            }
            if (faultPlace == NONE && text.count % 2 != 0) {
                faultPlace = text.count;
            }
            count = faultPlace == NONE ? text.count / 2 : 0;
        }

        private boolean takes(int i, int b) {
            int step = i / 2;
            if (step < 0 || step >= STEPS) {
                return false;
            }
            if (i % 2 == 0) {
                figure[step] = b >= 'a' && b <= 'h' ? b - 'a' : NONE;
                whither[step] = NONE;
                return figure[step] != NONE || b == '.';
            }
            if (figure[step] == NONE) {
                return b == '.';
            }
            whither[step] = "lrfb".indexOf((char) b);
            return whither[step] >= 0;
        }

        void clear() {
            count = 0;
        }

        void add(int who, int way) {
            if (count >= 0 && count < STEPS) {
                figure[count] = who;
                whither[count] = way;
                count++;
            }
        }

        int figureOf(int step) {
            return step >= 0 && step < count && step < STEPS ? figure[step] : NONE;
        }

        int whitherOf(int step) {
            return step >= 0 && step < count && step < STEPS ? whither[step] : NONE;
        }

        /** The STEPS that have a CUE, as bits. */
        int steps() {
            int bits = 0;
            for (int step = 0; step < STEPS; step++) {
                if (figureOf(step) != NONE) {
                    bits |= 1 << step;
                }
            }
            return bits;
        }
    }

    /** The LIGHT of all CELLS: for each of its three bits, the CELLS that have it, as bits. */
    private static final class Glow {
        private int red;
        private int green;
        private int blue;

        void fill(int cells) {
            red = cells;
            green = cells;
            blue = cells;
        }

        void become(Glow other) {
            red = other.red;
            green = other.green;
            blue = other.blue;
        }

        void set(int cell, int light) {
            red |= (light >> 2 & 1) << cell;
            green |= (light >> 1 & 1) << cell;
            blue |= (light & 1) << cell;
        }

        /** CELLS lose what a FIGURE of that colour does not leave. */
        void dim(int cells, int colour) {
            if (colour != RED) {
                red &= ~cells;
            }
            if (colour != GREEN) {
                green &= ~cells;
            }
            if (colour != BLUE) {
                blue &= ~cells;
            }
        }

        int lightOf(int cell) {
            return (red >>> cell & 1) << 2 | (green >>> cell & 1) << 1 | blue >>> cell & 1;
        }

        int dark() {
            return CELLS - Integer.bitCount(red | green | blue);
        }
    }

    /** THE PICTURE. */
    private static final class Picture {
        private final Glow wanted = new Glow();
        private int told;
        private int faultPlace = NONE;

        void parse(Row text) {
            faultPlace = NONE;
            wanted.fill(0);
            told = 0;
            for (int cell = 0; cell < text.count && faultPlace == NONE; cell++) {
                int b = text.item(cell);
                if (b >= '0' && b <= '7') {
                    told |= 1 << cell;
                    wanted.set(cell, b - '0');
                } else if (b != '.') {
                    faultPlace = cell;
                }
            }
            if (faultPlace != NONE) {
                told = 0;
            }
        }

        int lightOf(int cell) {
            return (told >>> cell & 1) != 0 ? wanted.lightOf(cell) : NONE;
        }

        int falseBy(Glow glow) {
            int unlike = glow.red ^ wanted.red | glow.green ^ wanted.green | glow.blue ^ wanted.blue;
            return Integer.bitCount(told & unlike);
        }

        boolean isShownBy(Glow glow) {
            return told != 0 && falseBy(glow) == 0;
        }
    }

    /** Where the FIGURES are while CUES are done, and what LIGHT comes by them. */
    private static final class Stage {
        private final Troupe told;
        /** By LAMP, DEPTH and PLACE the CELLS whose ray goes there; it never changes, so it is made once. */
        private final int[] rays = new int[LAMPS * DEPTHS * PLACES];
        private final int[] depth = new int[FIGURES];
        private final int[] place = new int[FIGURES];
        private final int[] colour = new int[FIGURES];
        /** The ray for which a FIGURE's cover was last worked out, as most stay where they are. */
        private final int[] coverRay = new int[FIGURES];
        private final int[] cover = new int[FIGURES];
        private final Glow glow = new Glow();
        private int lamp;

        Stage(Troupe told) {
            this.told = told;
            for (int at = 0; at < LAMPS; at++) {
                for (int deep = 1; deep <= DEPTHS; deep++) {
                    for (int cell = 0; cell < CELLS; cell++) {
                        int ray = rayTo(at, deep, (8 * at + 4 + deep * (cell - at)) / 8);
                        if (ray >= 0 && ray < rays.length) {
                            rays[ray] |= 1 << cell;
                        }
                    }
                }
            }
        }

        private static int rayTo(int lamp, int depth, int place) {
            return (lamp * DEPTHS + depth - 1) * PLACES + place;
        }

        /** What was worked out does not hold for FIGURES told anew. */
        void forgetCovers() {
            for (int f = 0; f < FIGURES; f++) {
                coverRay[f] = NONE;
            }
        }

        void start(int lampPlace) {
            lamp = lampPlace;
            for (int f = 0; f < FIGURES; f++) {
                depth[f] = told.depth[f];
                place[f] = told.place[f];
                colour[f] = told.colour[f];
            }
        }

        void put(int figure, int deep, int where) {
            if (told.has(figure)) {
                depth[figure] = deep;
                place[figure] = where;
            }
        }

        void paint(int figure, int with) {
            if (told.has(figure)) {
                colour[figure] = with;
            }
        }

        int depthOf(int figure) {
            return told.has(figure) ? depth[figure] : NONE;
        }

        int placeOf(int figure) {
            return told.has(figure) ? place[figure] : NONE;
        }

        void move(int figure, int whither) {
            if (!told.has(figure)) {
                return;
            }
            if (whither == LEFT && place[figure] > 0) {
                place[figure]--;
            } else if (whither == RIGHT && place[figure] < PLACES - 1) {
                place[figure]++;
            } else if (whither == FORWARD && depth[figure] > 1) {
                depth[figure]--;
            } else if (whither == BACKWARD && depth[figure] < DEPTHS) {
                depth[figure]++;
            }
        }

        /** The CELLS that a FIGURE COVERS, as bits. */
        int coverOf(int figure) {
            if (!told.has(figure)) {
                return 0;
            }
            int ray = rayTo(lamp, depth[figure], place[figure]);
            if (coverRay[figure] != ray) {
                coverRay[figure] = ray;
                cover[figure] = workOutCover(figure, ray);
            }
            return cover[figure];
        }

        private int workOutCover(int figure, int ray) {
            int cells = 0;
            for (int mark = 0; mark < MARKS && place[figure] + mark < PLACES; mark++) {
                if ((told.card[figure] >> mark & 1) != 0 && ray >= 0 && ray + mark < rays.length) {
                    cells |= rays[ray + mark];
                }
            }
            return cells;
        }

        /** Lights the CELLS as if those FIGURES (as bits) were left out. */
        void shine(boolean flickers, int without) {
            glow.fill(flickers ? 0 : ALL_CELLS);
            for (int f = 0; f < FIGURES && !flickers; f++) {
                if ((without >> f & 1) == 0) {
                    glow.dim(coverOf(f), colour[f]);
                }
            }
        }

        void dimBy(int figure) {
            if (told.has(figure)) {
                glow.dim(coverOf(figure), colour[figure]);
            }
        }

        /** The least FIGURE that TOUCHES another, 8 times, and the least other one; NONE. */
        int touchingPair() {
            for (int a = 0; a < told.count && a < FIGURES; a++) {
                for (int b = a + 1; b < told.count && b < FIGURES; b++) {
                    if (depth[a] == depth[b]
                            && place[a] < place[b] + told.marks[b] && place[b] < place[a] + told.marks[a]) {
                        return a * FIGURES + b;
                    }
                }
            }
            return NONE;
        }
    }

    /** All that is told, and the stage on which it is played. */
    private static final class Show {
        private final Troupe figures = new Troupe();
        private final Cues cues = new Cues();
        private final Picture picture = new Picture();
        private final Row flickers = new Row(FLICKERS);
        private final Stage stage = new Stage(figures);
        private int lamp = 16;

        boolean isOut(int step) {
            for (int i = 0; i < flickers.count; i++) {
                if (flickers.item(i) == step) {
                    return true;
                }
            }
            return false;
        }

        void open() {
            stage.start(lamp);
        }

        /** Does the CUES of STEPS 0 to the last one but those of skip (as bits) from where the stage stands. */
        void doCues(int last, int skip) {
            for (int step = 0; step <= last && step < STEPS; step++) {
                if ((skip >> step & 1) == 0) {
                    stage.move(cues.figureOf(step), cues.whitherOf(step));
                }
            }
        }

        void goTo(int step) {
            stage.start(lamp);
            doCues(step, 0);
        }

        void lightUp(int step) {
            stage.start(lamp);
            doCues(step, 0);
            stage.shine(isOut(step), 0);
        }

        int falseNow() {
            return picture.falseBy(stage.glow);
        }

        boolean isShownNow() {
            return picture.isShownBy(stage.glow);
        }

        int coversOf(int step, int cell) {
            goTo(step);
            int bits = 0;
            for (int f = 0; f < figures.count; f++) {
                bits |= (stage.coverOf(f) >>> cell & 1) << f;
            }
            return bits;
        }

        int whereabouts(int step, int figure, int what) {
            goTo(step);
            int cells = stage.coverOf(figure);
            switch (what) {
                case 0:
                    return stage.depthOf(figure);
                case 1:
                    return stage.placeOf(figure);
                case 2:
                    return Integer.bitCount(cells);
                default:
                    return leastBit(cells);
            }
        }

        static int leastBit(int bits) {
            for (int i = 0; i < 32; i++) {
                if ((bits >>> i & 1) != 0) {
                    return i;
                }
            }
            return NONE;
        }

        /** The STEPS in which THE PICTURE is SHOWN, as bits; the stage is left as lit in the last one. */
        int shownSteps(Cues script) {
            stage.start(lamp);
            int bits = 0;
            for (int step = 0; step < STEPS; step++) {
                stage.move(script.figureOf(step), script.whitherOf(step));
                stage.shine(isOut(step), 0);
                if (isShownNow()) {
                    bits |= 1 << step;
                }
            }
            return bits;
        }

        int firstTouch(int what) {
            stage.start(lamp);
            for (int step = 0; step < STEPS; step++) {
                stage.move(cues.figureOf(step), cues.whitherOf(step));
                int pair = stage.touchingPair();
                if (pair != NONE) {
                    return what == 0 ? step : what == 1 ? pair / FIGURES : pair % FIGURES;
                }
            }
            return NONE;
        }

        int darkestStep() {
            stage.start(lamp);
            int best = NONE;
            int most = NONE;
            for (int step = 0; step < STEPS; step++) {
                stage.move(cues.figureOf(step), cues.whitherOf(step));
                stage.shine(false, 0);
                if (stage.glow.dark() > most && !isOut(step)) {
                    most = stage.glow.dark();
                    best = step;
                }
            }
            return best;
        }
    }

    /** HANG, SHIFT, MORE and LEAVE; what was planned last is told by answer. */
    private static final class Planner {
        private final Show show;
        private final Stage stage;
        private final Glow others = new Glow();
        private final int[] endDepth = new int[DEPTHS + 1];
        private final int[] endPlace = new int[PLACES];
        private final int[] plan = new int[3];

        Planner(Show show) {
            this.show = show;
            this.stage = show.stage;
        }

        int answer(int i) {
            return i >= 0 && i < plan.length ? plan[i] : NONE;
        }

        private void decide(int first, int second, int third) {
            plan[0] = first;
            plan[1] = second;
            plan[2] = third;
        }

        /** The DEPTH, the PLACE, by how many. */
        void planHang(int figure, int step) {
            findEnds(figure, step);
            show.goTo(step);
            stage.shine(show.isOut(step), 1 << figure);
            others.become(stage.glow);
            decide(NONE, NONE, CELLS + 1);
            for (int deep = 1; deep <= DEPTHS; deep++) {
                for (int where = 0; where < PLACES; where++) {
                    stage.put(figure, endDepth[deep], endPlace[where]);
                    stage.glow.become(others);
                    stage.dimBy(figure);
                    if (show.falseNow() < plan[2]) {
                        decide(deep, where, show.falseNow());
                    }
                }
            }
        }

        /**
         * A DEPTH told moves no PLACE and the other way round, so one run tells where both end. The other
         * FIGURES are left anywhere.
         */
        private void findEnds(int figure, int step) {
            for (int told = 0; told < PLACES; told++) {
                int deep = Math.min(told + 1, DEPTHS);
                stage.put(figure, deep, told);
                show.doCues(step, 0);
                endDepth[deep] = stage.depthOf(figure);
                endPlace[told] = stage.placeOf(figure);
            }
        }

        /** Which LAMP, by how many. */
        void planShift(int step) {
            show.goTo(step);
            decide(NONE, CELLS + 1, NONE);
            for (int lamp = 0; lamp < LAMPS; lamp++) {
                stage.lamp = lamp;
                stage.shine(show.isOut(step), 0);
                if (show.falseNow() < plan[1]) {
                    decide(lamp, show.falseNow(), NONE);
                }
            }
        }

        /** How many, and these. */
        void planMore() {
            decide(NONE, NONE, NONE);
            show.lightUp(LAST_STEP);
            if (show.isShownNow()) {
                decide(0, NONE, NONE);
                return;
            }
            int choices = WAYS * show.figures.count;
            for (int a = 0; a < choices; a++) {
                if (isShownAfter(a, NONE)) {
                    decide(1, a, NONE);
                    return;
                }
            }
            for (int a = 0; a < choices; a++) {
                for (int b = 0; b < choices; b++) {
                    if (isShownAfter(a, b)) {
                        decide(2, a, b);
                        return;
                    }
                }
            }
        }

        /** The stage comes back to where it stood. */
        private boolean isShownAfter(int a, int b) {
            int first = a / WAYS;
            int second = b == NONE ? first : b / WAYS;
            int firstDepth = stage.depthOf(first);
            int firstPlace = stage.placeOf(first);
            int secondDepth = stage.depthOf(second);
            int secondPlace = stage.placeOf(second);
            stage.move(first, a % WAYS);
            if (b != NONE) {
                stage.move(second, b % WAYS);
            }
            stage.shine(show.isOut(LAST_STEP), 0);
            stage.put(first, firstDepth, firstPlace);
            stage.put(second, secondDepth, secondPlace);
            return show.isShownNow();
        }

        /** How many, and these. */
        void planLeave(int step) {
            decide(NONE, NONE, NONE);
            show.goTo(step);
            int figures = show.figures.count;
            if (isShownWithout(0, step)) {
                decide(0, NONE, NONE);
                return;
            }
            for (int a = 0; a < figures; a++) {
                if (isShownWithout(1 << a, step)) {
                    decide(1, a, NONE);
                    return;
                }
            }
            for (int a = 0; a < figures; a++) {
                for (int b = a + 1; b < figures; b++) {
                    if (isShownWithout(1 << a | 1 << b, step)) {
                        decide(2, a, b);
                        return;
                    }
                }
            }
        }

        private boolean isShownWithout(int figures, int step) {
            stage.shine(show.isOut(step), figures);
            return show.isShownNow();
        }
    }

    /** What was SEEN, and what follows from it. */
    private static final class Witness {
        private final Show show;
        private final Stage stage;
        /** Each as one number: the STEP, the CELL, the LIGHT. */
        private final Row sights = new Row(SIGHTS);
        private final int[] tally = new int[CELLS * LIGHTS];

        Witness(Show show) {
            this.show = show;
            this.stage = show.stage;
        }

        int add(int step, int cell, int light) {
            return sights.add((step * CELLS + cell) * LIGHTS + light);
        }

        private int watchedSteps() {
            int bits = 0;
            for (int i = 0; i < sights.count; i++) {
                bits |= 1 << sights.item(i) / (CELLS * LIGHTS);
            }
            return bits;
        }

        /** Plays on from where the stage stands; says if all that was SEEN comes out so. */
        private boolean agrees(int skip) {
            int watched = watchedSteps();
            for (int step = 0; step < STEPS && watched >> step != 0; step++) {
                if ((skip >> step & 1) == 0) {
                    stage.move(show.cues.figureOf(step), show.cues.whitherOf(step));
                }
                if ((watched >> step & 1) != 0) {
                    stage.shine(show.isOut(step), 0);
                    if (!agreesIn(step)) {
                        return false;
                    }
                }
            }
            return true;
        }

        private boolean agreesIn(int step) {
            for (int i = 0; i < sights.count; i++) {
                int sight = sights.item(i);
                boolean here = sight / (CELLS * LIGHTS) == step;
                if (here && stage.glow.lightOf(sight / LIGHTS % CELLS) != sight % LIGHTS) {
                    return false;
                }
            }
            return true;
        }

        int neverSteps() {
            int cued = show.cues.steps();
            int bits = 0;
            for (int step = 0; step < STEPS; step++) {
                show.open();
                if ((cued >> step & 1) != 0 && agrees(1 << step)) {
                    bits |= 1 << step;
                }
            }
            return bits;
        }

        int colours(int figure) {
            int bits = 0;
            for (int colour = 0; colour < COLOURS; colour++) {
                show.open();
                stage.paint(figure, colour);
                if (agrees(0)) {
                    bits |= 1 << colour;
                }
            }
            return bits;
        }

        int depths(int figure) {
            int bits = 0;
            for (int deep = 1; deep <= DEPTHS; deep++) {
                show.open();
                stage.put(figure, deep, stage.placeOf(figure));
                if (agrees(0)) {
                    bits |= 1 << deep;
                }
            }
            return bits;
        }

        int cellToAsk(int figure, int depths) {
            tallyLights(figure, depths);
            int best = NONE;
            int least = DEPTHS + 1;
            for (int cell = 0; cell < CELLS; cell++) {
                int greatest = 0;
                for (int light = 0; light < LIGHTS; light++) {
                    greatest = Math.max(greatest, tally[cell * LIGHTS + light]);
                }
                if (greatest < least) {
                    least = greatest;
                    best = cell;
                }
            }
            return best;
        }

        /** By how many of these DEPTHS (as bits) each CELL has each LIGHT in the last STEP. */
        private void tallyLights(int figure, int depths) {
            for (int i = 0; i < tally.length; i++) {
                tally[i] = 0;
            }
            for (int deep = 1; deep <= DEPTHS; deep++) {
                if ((depths >> deep & 1) == 0) {
                    continue;
                }
                show.open();
                stage.put(figure, deep, stage.placeOf(figure));
                show.doCues(LAST_STEP, 0);
                stage.shine(show.isOut(LAST_STEP), 0);
                for (int cell = 0; cell < CELLS; cell++) {
                    tally[cell * LIGHTS + (stage.glow.lightOf(cell) & LIGHTS - 1)]++;
                }
            }
        }
    }

    /** STUMBLES and PLAYS. */
    private static final class Chance {
        private final Show show;
        private final Cues lots = new Cues();
        private long above;
        private long below = 1;

        Chance(Show show) {
            this.show = show;
        }

        void reckon(int c, int last, int step) {
            int loose = looseSteps(Math.min(last, step));
            above = 0;
            below = power(SIXTEENTHS, Integer.bitCount(loose));
            for (int skip = 0; skip <= loose && skip < 1 << LOOSE_STEPS; skip++) {
                if ((skip & ~loose) == 0) {
                    above += waysShown(c, loose, skip, step);
                }
            }
            lowerTerms();
        }

        /** STEPS 0 to the last one whose CUE moves a FIGURE: whether the others are done is all one. */
        private int looseSteps(int last) {
            int bits = 0;
            for (int step = 0; step <= last && step < LOOSE_STEPS; step++) {
                if (show.figures.has(show.cues.figureOf(step))) {
                    bits |= 1 << step;
                }
            }
            return bits;
        }

        private long waysShown(int c, int loose, int skip, int step) {
            long ways = power(c, Integer.bitCount(skip))
                    * power(SIXTEENTHS - c, Integer.bitCount(loose & ~skip));
            if (ways == 0) {
                return 0;
            }
            show.open();
            show.doCues(step, skip);
            show.stage.shine(show.isOut(step), 0);
            return show.isShownNow() ? ways : 0;
        }

        private static long power(int base, int times) {
            long product = 1;
            for (int i = 0; i < times; i++) {
                product *= base;
            }
            return product;
        }

        /** Below is a power of 2, so halving is enough; 0 is halved until it is 0 by 1. */
        private void lowerTerms() {
            for (int i = 0; i < MOST_HALVINGS && above % 2 == 0 && below % 2 == 0; i++) {
                above /= 2;
                below /= 2;
            }
        }

        /** In how many STEPS THE PICTURE is SHOWN (0), how many CELLS are DARK in the last one (1). */
        int playOut(int seed, int n, int what) {
            draw(seed, n);
            int shownSteps = show.shownSteps(lots);
            return what == 0 ? Integer.bitCount(shownSteps) : show.stage.glow.dark();
        }

        private void draw(int seed, int n) {
            lots.clear();
            int figures = show.figures.count;
            if (figures <= 0) {
                return;
            }
            int lot = seed;
            for (int i = 0; i < n; i++) {
                lot = next(lot);
                int figure = (lot >>> 16) % figures;
                lot = next(lot);
                lots.add(figure, (lot >>> 16) % WAYS);
            }
        }

        private static int next(int seed) {
            return 1103515245 * seed + 12345;
        }
    }

    /** A LOST SHEET, or a row of a FORM. */
    private static final class Sheet {
        private final int[] items = new int[ITEMS];
        private int form = NONE;
        private int count;

        boolean isLost() {
            return form == NONE;
        }

        boolean has(int i) {
            return i >= 0 && i < count && i < ITEMS;
        }

        void renew(int newForm, int n) {
            form = newForm;
            count = Math.min(n, ITEMS);
            for (int i = 0; i < ITEMS; i++) {
                items[i] = 0;
            }
        }

        int drop() {
            int had = count;
            form = NONE;
            count = 0;
            return had;
        }

        void put(int i, int v) {
            if (has(i)) {
                items[i] = form == 0 ? (byte) v : form == 1 ? (short) v : v;
            }
        }

        int item(int i) {
            return has(i) ? items[i] : 0;
        }

        boolean hasRun(int from, int n) {
            return from >= 0 && n >= 0 && from <= count && n <= count - from;
        }
    }

    public ShadowTheatre() {
        figureText = new Row(FIGURE_BYTES);
        cueText = new Row(CUE_BYTES);
        pictureText = new Row(PICTURE_BYTES);
        show = new Show();
        planner = new Planner(show);
        witness = new Witness(show);
        chance = new Chance(show);
        sheets = new Sheet[SHEETS];
        for (int s = 0; s < SHEETS; s++) {
            sheets[s] = new Sheet();
        }
        show.stage.forgetCovers();
    }

    // ---- figures, cues, the picture, the lamp

    public int type(int text, int b) {
        Row row = textOf(text);
        if (row == null || !isBelow(b, 256)) {
            return BAD;
        }
        if (row.isFull()) {
            return FULL;
        }
        row.add(b);
        parse(text);
        return row.count;
    }

    public int wipe(int text) {
        Row row = textOf(text);
        if (row == null) {
            return BAD;
        }
        int had = row.clear();
        parse(text);
        return had;
    }

    public int undo(int text) {
        Row row = textOf(text);
        if (row == null) {
            return BAD;
        }
        if (row.count == 0) {
            return NOT;
        }
        row.drop();
        parse(text);
        return row.count;
    }

    public int fault(int text) {
        switch (text) {
            case 0:
                return show.figures.faultPlace;
            case 1:
                return show.cues.faultPlace;
            case 2:
                return show.picture.faultPlace;
            default:
                return BAD;
        }
    }

    public int figure(int figure, int what) {
        return show.figures.has(figure) && isBelow(what, 4 + MARKS) ? show.figures.detail(figure, what) : BAD;
    }

    public int cue(int step, int what) {
        if (!isBelow(step, STEPS) || !isBelow(what, 2)) {
            return BAD;
        }
        return what == 0 ? show.cues.figureOf(step) : show.cues.whitherOf(step);
    }

    public int picture(int cell) {
        return isBelow(cell, CELLS) ? show.picture.lightOf(cell) : BAD;
    }

    public int lamp(int v) {
        if (!isBelow(v, LAMPS)) {
            return BAD;
        }
        int was = show.lamp;
        show.lamp = v;
        return was;
    }

    public int flicker(int step) {
        if (!isBelow(step, STEPS)) {
            return BAD;
        }
        return show.flickers.isFull() ? FULL : show.flickers.add(step);
    }

    public int back() {
        return show.flickers.count == 0 ? NOT : show.flickers.drop();
    }

    public int read(int s) {
        Sheet sheet = sheetOf(s);
        if (sheet == null) {
            return BAD;
        }
        if (sheet.isLost()) {
            return find(NULL);
        }
        int came = 0;
        while (came < sheet.count && !show.flickers.isFull() && isBelow(sheet.item(came), STEPS)) {
            show.flickers.add(sheet.item(came));
            came++;
        }
        return came;
    }

    // ---- steps

    public int light(int step, int cell) {
        if (!isBelow(step, STEPS) || !isBelow(cell, CELLS)) {
            return BAD;
        }
        show.lightUp(step);
        return show.stage.glow.lightOf(cell);
    }

    public int covers(int step, int cell) {
        return isBelow(step, STEPS) && isBelow(cell, CELLS) ? show.coversOf(step, cell) : BAD;
    }

    public int at(int step, int figure, int what) {
        if (!isBelow(step, STEPS) || !show.figures.has(figure) || !isBelow(what, 4)) {
            return BAD;
        }
        return show.whereabouts(step, figure, what);
    }

    public int screen(int step, int what) {
        if (!isBelow(step, STEPS) || !isBelow(what, 2)) {
            return BAD;
        }
        show.lightUp(step);
        return what == 0 ? show.falseNow() : show.stage.glow.dark();
    }

    public int shown(int what) {
        if (!isBelow(what, 2)) {
            return BAD;
        }
        int steps = show.shownSteps(show.cues);
        return what == 0 ? Show.leastBit(steps) : Integer.bitCount(steps);
    }

    public int touched(int what) {
        return isBelow(what, 3) ? show.firstTouch(what) : BAD;
    }

    public int darkest() {
        return show.darkestStep();
    }

    // ---- plans

    public int hang(int figure, int step, int what) {
        if (!show.figures.has(figure) || !isBelow(step, STEPS) || !isBelow(what, 3)) {
            return BAD;
        }
        planner.planHang(figure, step);
        return planner.answer(what);
    }

    public int shift(int step, int what) {
        if (!isBelow(step, STEPS) || !isBelow(what, 2)) {
            return BAD;
        }
        planner.planShift(step);
        return planner.answer(what);
    }

    public int more(int i) {
        if (i != NONE && !isBelow(i, 2)) {
            return BAD;
        }
        planner.planMore();
        return planner.answer(i + 1);
    }

    public int leave(int step, int i) {
        if (!isBelow(step, STEPS) || i != NONE && !isBelow(i, 2)) {
            return BAD;
        }
        planner.planLeave(step);
        return planner.answer(i + 1);
    }

    // ---- seen, stumbles, plays

    public int seen(int step, int cell, int light) {
        if (!isBelow(step, STEPS) || !isBelow(cell, CELLS) || !isBelow(light, LIGHTS)) {
            return BAD;
        }
        return witness.sights.isFull() ? FULL : witness.add(step, cell, light);
    }

    public int forget() {
        return witness.sights.clear();
    }

    public int never() {
        return witness.neverSteps();
    }

    public int was(int figure, int what) {
        if (!show.figures.has(figure) || !isBelow(what, 2)) {
            return BAD;
        }
        return what == 0 ? witness.colours(figure) : witness.depths(figure);
    }

    public int ask(int figure) {
        return show.figures.has(figure) ? witness.cellToAsk(figure, witness.depths(figure)) : BAD;
    }

    public long stumble(int c, int last, int step, int what) {
        if (!isBelow(c, SIXTEENTHS + 1) || !isBelow(last, LOOSE_STEPS)
                || !isBelow(step, STEPS) || !isBelow(what, 2)) {
            return LEAST_LONG - BAD;
        }
        chance.reckon(c, last, step);
        return what == 0 ? chance.above : chance.below;
    }

    public int play(int seed, int n, int what) {
        return isBelow(n, STEPS + 1) && isBelow(what, 2) ? chance.playOut(seed, n, what) : BAD;
    }

    // ---- sheets

    public int sheet(int s, int form, int n) {
        Sheet sheet = sheetOf(s);
        if (sheet == null || !isBelow(form, FORMS) || n > ITEMS) {
            return BAD;
        }
        if (n < 0) {
            return find(SIZE);
        }
        sheet.renew(form, n);
        return n;
    }

    public int lose(int s) {
        Sheet sheet = sheetOf(s);
        if (sheet == null) {
            return BAD;
        }
        return sheet.isLost() ? find(NULL) : sheet.drop();
    }

    public int lay(int s, int form, int i, int v) {
        Sheet sheet = sheetOf(s);
        if (sheet == null || !isBelow(form, FORMS)) {
            return BAD;
        }
        int wrong = findingOf(sheet, form, i);
        if (wrong != 0) {
            return find(wrong);
        }
        sheet.put(i, v);
        return 1;
    }

    public int get(int s, int form, int i) {
        Sheet sheet = sheetOf(s);
        if (sheet == null || !isBelow(form, FORMS)) {
            return LEAST_INT;
        }
        int wrong = findingOf(sheet, form, i);
        if (wrong != 0) {
            find(wrong);
            return LEAST_INT;
        }
        return sheet.item(i);
    }

    public int copy(int s, int i, int t, int j, int n) {
        Sheet from = sheetOf(s);
        Sheet to = sheetOf(t);
        if (from == null || to == null) {
            return BAD;
        }
        if (from.isLost() || to.isLost()) {
            return find(NULL);
        }
        if (from.form != to.form) {
            return find(STORE);
        }
        if (!from.hasRun(i, n) || !to.hasRun(j, n)) {
            return find(INDEX);
        }
        System.arraycopy(from.items, i, to.items, j, n);
        return 1;
    }

    public int write(int step, int s) {
        Sheet sheet = sheetOf(s);
        if (!isBelow(step, STEPS) || sheet == null) {
            return BAD;
        }
        if (sheet.isLost()) {
            return find(NULL);
        }
        show.lightUp(step);
        int many = Math.min(sheet.count, CELLS);
        for (int cell = 0; cell < many; cell++) {
            sheet.put(cell, show.stage.glow.lightOf(cell));
        }
        return many;
    }

    public int count(int what) {
        switch (what) {
            case 0:
                return show.figures.count;
            case 1:
                return Integer.bitCount(show.cues.steps());
            case 2:
                return Integer.bitCount(show.picture.told);
            case 3:
                return figureText.count;
            case 4:
                return cueText.count;
            case 5:
                return pictureText.count;
            case 6:
                return show.flickers.count;
            case 7:
                return witness.sights.count;
            case 8:
                return finding;
            default:
                return BAD;
        }
    }

    public long digest() {
        long h = 17;
        for (int what = 0; what < 8; what++) {
            h = mix(h, count(what));
        }
        for (int text = 0; text < 3; text++) {
            h = mix(h, fault(text));
        }
        for (int step = 0; step < STEPS; step++) {
            h = mixStep(h, step);
        }
        for (int cell = 0; cell < CELLS; cell++) {
            h = mixCell(h, cell);
        }
        for (int f = 0; f < show.figures.count; f++) {
            h = mixFigure(h, f);
        }
        h = mixShown(h);
        h = mixStepPlans(h, 0);
        h = mixStepPlans(h, 9);
        h = mixStepPlans(h, LAST_STEP);
        return mixRest(h);
    }

    private static long mix(long h, long v) {
        return 31 * h + v;
    }

    private long mixStep(long hash, int step) {
        long h = mix(hash, show.cues.figureOf(step));
        h = mix(h, show.cues.whitherOf(step));
        h = mix(h, screen(step, 0));
        return mix(h, screen(step, 1));
    }

    private long mixCell(long hash, int cell) {
        long h = mix(hash, picture(cell));
        h = mix(h, light(0, cell));
        h = mix(h, light(9, cell));
        h = mix(h, light(LAST_STEP, cell));
        return mix(h, covers(LAST_STEP, cell));
    }

    private long mixFigure(long hash, int f) {
        long h = hash;
        for (int what = 0; what < 4 + MARKS; what++) {
            h = mix(h, figure(f, what));
        }
        for (int what = 0; what < 4; what++) {
            h = mix(h, show.whereabouts(9, f, what));
        }
        for (int what = 0; what < 4; what++) {
            h = mix(h, show.whereabouts(LAST_STEP, f, what));
        }
        planner.planHang(f, 9);
        for (int what = 0; what < 3; what++) {
            h = mix(h, planner.answer(what));
        }
        h = mix(h, witness.colours(f));
        int depths = witness.depths(f);
        h = mix(h, depths);
        return mix(h, witness.cellToAsk(f, depths));
    }

    private long mixShown(long hash) {
        long h = mix(hash, shown(0));
        h = mix(h, shown(1));
        for (int what = 0; what < 3; what++) {
            h = mix(h, touched(what));
        }
        return mix(h, darkest());
    }

    private long mixStepPlans(long hash, int step) {
        planner.planShift(step);
        long h = mix(hash, planner.answer(0));
        h = mix(h, planner.answer(1));
        planner.planLeave(step);
        h = mix(h, planner.answer(0));
        return mix(h, planner.answer(1));
    }

    private long mixRest(long hash) {
        planner.planMore();
        long h = mix(hash, planner.answer(0));
        h = mix(h, planner.answer(1));
        h = mix(h, never());
        chance.reckon(5, 5, 9);
        h = mix(h, chance.above);
        h = mix(h, chance.below);
        h = mix(h, chance.playOut(7, 15, 0));
        return mix(h, chance.playOut(7, 15, 1));
    }

    private static boolean isBelow(int v, int end) {
        return v >= 0 && v < end;
    }

    private Row textOf(int text) {
        return text == 0 ? figureText : text == 1 ? cueText : text == 2 ? pictureText : null;
    }

    private void parse(int text) {
        if (text == 0) {
            show.figures.parse(figureText);
            show.stage.forgetCovers();
        } else if (text == 1) {
            show.cues.parse(cueText);
        } else {
            show.picture.parse(pictureText);
        }
    }

    private Sheet sheetOf(int s) {
        return isBelow(s, SHEETS) ? sheets[s] : null;
    }

    /** A FINDING is kept for count() 8; the answer tells its number. */
    private int find(int number) {
        finding = number;
        return -10 - number;
    }

    /** The number of what forbids to treat item i as of a FORM; 0. */
    private static int findingOf(Sheet sheet, int form, int i) {
        if (sheet.isLost()) {
            return NULL;
        }
        if (sheet.form != form) {
            return CAST;
        }
        return sheet.has(i) ? 0 : INDEX;
    }
}
