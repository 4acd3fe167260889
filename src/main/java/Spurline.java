/**
 * An orienteering club: a map with contour lines, best routes, courses, drawn starts, punches,
 * splits and ranks. README.md says how to use it; ../shared/DOC.md is what it promises.
 */
public final class Spurline {

    /** There is none. */
    public static final int NONE = -1;
    /** What a runner is. */
    public static final int RUNNING = 0, RANKED = 1, WRONG = 2;

    private static final int LEAST_SIDE = 2, MOST_SIDE = 12;
    private static final int CELLS = MOST_SIDE * MOST_SIDE;
    private static final int MOST_HEIGHT = 255, MOST_LEVEL = 255, MOST_FALL = 255;
    private static final int SIDES_OF_A_CELL = 4;
    private static final int MEADOW = 1, WOOD = 2, MARSH = 3, FORBIDDEN = 4;
    private static final int MOST_CONTROLS = 12;
    private static final int KLASSES = 5;
    private static final int COURSE_LENGTH = 6;
    // A course has at most four controls between its start and its finish: 4 * 3 * 2 orders.
    private static final int MOST_ORDERS = 24;
    private static final int MOST_CLIMB = 9999;
    private static final int MOST_RUNNERS = 24;
    private static final int MOST_CLUB = 7;
    private static final int LOTS = 7875;
    private static final int MOST_GAP = 10;
    private static final int MOST_PUNCHES = 20;
    private static final int MOST_MINUTE = 9999;

    private final Terrain terrain;
    private final Contours contours;
    private final Routes routes;
    private final Controls controls;
    private final Courses courses;
    private final Planner planner;
    private final Entries entries;
    private final Results results;

    public Spurline(int width, int height) {
        terrain = new Terrain(sideWithinLimits(width), sideWithinLimits(height));
        contours = new Contours(terrain);
        routes = new Routes(terrain);
        controls = new Controls();
        courses = new Courses();
        planner = new Planner(routes, controls, courses);
        entries = new Entries();
        results = new Results(controls, courses, entries);
    }

    private static int sideWithinLimits(int side) {
        return Math.max(LEAST_SIDE, Math.min(MOST_SIDE, side));
    }

    // ---- the map.

    public int setHeight(int x, int y, int height) throws IndexOutOfBoundsException, IllegalArgumentException {
        needCell(x, y);
        needRange(height, 0, MOST_HEIGHT);
        return terrain.replaceHeight(Terrain.number(x, y), height);
    }

    public int hill(int x, int y, int top, int fall) throws IndexOutOfBoundsException, IllegalArgumentException {
        needCell(x, y);
        needRange(top, 0, MOST_HEIGHT);
        needRange(fall, 1, MOST_FALL);
        return terrain.raiseAround(x, y, top, fall);
    }

    public int setGround(int x, int y, int toX, int toY, int ground) throws IndexOutOfBoundsException, IllegalArgumentException {
        needCell(x, y);
        needCell(toX, toY);
        needRange(toX, x, MOST_SIDE);
        needRange(toY, y, MOST_SIDE);
        needRange(ground, 0, FORBIDDEN);
        return terrain.cover(x, y, toX, toY, ground);
    }

    // ---- controls, courses, runners.

    public int control(int x, int y) throws IndexOutOfBoundsException, IllegalStateException {
        needCell(x, y);
        int cell = Terrain.number(x, y);
        needState(controls.count() < MOST_CONTROLS);
        needState(!controls.standsIn(cell) && !terrain.isForbidden(cell));
        return controls.add(cell);
    }

    public int visit(int klass, int control) throws IndexOutOfBoundsException, IllegalStateException {
        needKlass(klass);
        needControl(control);
        needState(courses.length(klass) < COURSE_LENGTH && !courses.contains(klass, control));
        needState(!entries.areDrawn());
        return courses.append(klass, control);
    }

    public int arrange(int klass, int climb) throws IndexOutOfBoundsException, IllegalArgumentException, IllegalStateException {
        needKlass(klass);
        needRange(climb, 0, MOST_CLIMB);
        needState(!entries.areDrawn());
        planner.reorder(klass, climb);
        planner.measure(klass);
        return planner.measuredClimb();
    }

    public int enter(int klass, int club) throws IndexOutOfBoundsException, IllegalArgumentException, IllegalStateException {
        needKlass(klass);
        needRange(club, 0, MOST_CLUB);
        needState(entries.count() < MOST_RUNNERS && !entries.areDrawn());
        needState(courses.length(klass) >= 2);
        return entries.add(klass, club);
    }

    public int draw(int seed, int gap) throws IllegalArgumentException, IllegalStateException {
        needRange(seed, 0, LOTS - 1);
        needRange(gap, 1, MOST_GAP);
        needState(entries.count() > 0 && !entries.areDrawn());
        return entries.drawStarts(seed, gap);
    }

    // ---- the race.

    public int punch(int runner, int control, int minute) throws IndexOutOfBoundsException, IllegalStateException, IllegalArgumentException {
        needRunner(runner);
        needControl(control);
        needState(entries.areDrawn() && entries.punchCount(runner) < MOST_PUNCHES);
        needRange(minute, entries.earliestPunch(runner), MOST_MINUTE);
        entries.addPunch(runner, control, minute);
        results.reckon();
        return results.countedPunches(runner);
    }

    public boolean fail(int control, boolean hasFailed) throws IndexOutOfBoundsException, IllegalStateException {
        needControl(control);
        needState(!courses.beginsOrEndsOne(control));
        return controls.replaceFailed(control, hasFailed);
    }

    // ---- what is asked: the map.

    public int cell(int x, int y) throws IndexOutOfBoundsException {
        needCell(x, y);
        int cell = Terrain.number(x, y);
        return 10 * terrain.heightOf(cell) + terrain.groundOf(cell);
    }

    public int lines(int level) throws IllegalArgumentException {
        needRange(level, 1, MOST_LEVEL);
        contours.trace(level);
        return contours.lineCount();
    }

    public int rings(int level) throws IllegalArgumentException {
        needRange(level, 1, MOST_LEVEL);
        contours.trace(level);
        return contours.ringCount();
    }

    public int longest(int level) throws IllegalArgumentException {
        needRange(level, 1, MOST_LEVEL);
        contours.trace(level);
        return contours.mostGaps();
    }

    // ---- what is asked: routes and courses.

    public int cost(int from, int to) throws IndexOutOfBoundsException {
        needControl(from);
        needControl(to);
        routes.search(controls.cellOf(from), false);
        return routes.costTo(controls.cellOf(to));
    }

    public int costByCells(int from, int to) throws IndexOutOfBoundsException {
        needControl(from);
        needControl(to);
        routes.searchByCells(controls.cellOf(from));
        return routes.costTo(controls.cellOf(to));
    }

    public int climb(int from, int to) throws IndexOutOfBoundsException {
        needControl(from);
        needControl(to);
        routes.search(controls.cellOf(from), false);
        return routes.climbTo(controls.cellOf(to));
    }

    public boolean tempts(int from, int to) throws IndexOutOfBoundsException {
        needControl(from);
        needControl(to);
        int target = controls.cellOf(to);
        routes.search(controls.cellOf(from), false);
        int allowed = routes.costTo(target);
        routes.search(controls.cellOf(from), true);
        return allowed == NONE || routes.costTo(target) < allowed;
    }

    public int courseAt(int klass, int index) throws IndexOutOfBoundsException {
        needKlass(klass);
        needIndex(index, courses.length(klass));
        return courses.controlAt(klass, index);
    }

    public int courseClimb(int klass) throws IndexOutOfBoundsException {
        needKlass(klass);
        planner.measure(klass);
        return planner.measuredClimb();
    }

    public int courseCost(int klass) throws IndexOutOfBoundsException {
        needKlass(klass);
        planner.measure(klass);
        return planner.measuredCost();
    }

    public int spread() {
        return planner.differenceOfClimbs();
    }

    // ---- what is asked: the race.

    public int runners() {
        return entries.count();
    }

    public int startOf(int runner) throws IndexOutOfBoundsException {
        needRunner(runner);
        return entries.startMinute(runner);
    }

    public int stateOf(int runner) throws IndexOutOfBoundsException {
        needRunner(runner);
        results.reckon();
        return results.state(runner);
    }

    public int split(int runner, int leg) throws IndexOutOfBoundsException {
        needRunner(runner);
        needLeg(runner, leg);
        results.reckon();
        return results.splitMinutes(runner, leg);
    }

    public int total(int runner) throws IndexOutOfBoundsException {
        needRunner(runner);
        results.reckon();
        return results.totalMinutes(runner);
    }

    public int rank(int runner) throws IndexOutOfBoundsException {
        needRunner(runner);
        results.reckon();
        return results.place(runner);
    }

    public int lost(int runner, int leg) throws IndexOutOfBoundsException {
        needRunner(runner);
        needLeg(runner, leg);
        results.reckon();
        return results.lostMinutes(runner, leg);
    }

    // ---- what a call needs, or else it throws.

    private void needCell(int x, int y) {
        if (!terrain.has(x, y)) {
            throw new IndexOutOfBoundsException("there is no such cell");
        }
    }

    private void needControl(int control) {
        needIndex(control, controls.count());
    }

    private void needRunner(int runner) {
        needIndex(runner, entries.count());
    }

    private void needLeg(int runner, int leg) {
        needIndex(leg, courses.legs(entries.klassOf(runner)));
    }

    private static void needKlass(int klass) {
        needIndex(klass, KLASSES);
    }

    private static void needIndex(int index, int count) {
        if (index < 0 || index >= count) {
            throw new IndexOutOfBoundsException("there is no such number");
        }
    }

    private static void needRange(int value, int least, int most) {
        if (value < least || value > most) {
            throw new IllegalArgumentException("a value is out of range");
        }
    }

    private static void needState(boolean allows) {
        if (!allows) {
            throw new IllegalStateException("what was told before rules this call out");
        }
    }

    /** Numbers in a row. The one place that uses an array's index, so that the test of it stands in one place. */
    private static final class Row {
        private final int[] numbers;

        Row(int length) {
            numbers = new int[Math.max(0, length)];
        }

        int get(int index) {
            return index >= 0 && index < numbers.length ? numbers[index] : NONE;
        }

        void put(int index, int number) {
            if (index >= 0 && index < numbers.length) {
                numbers[index] = number;
            }
        }

        void fill(int number) {
            for (int index = 0; index < numbers.length; index++) {
                numbers[index] = number;
            }
        }

        void increase(int index, int by) {
            put(index, get(index) + by);
        }
    }

    /** Heights and grounds. A cell's number counts rows of MOST_SIDE cells, however wide the map is. */
    private static final class Terrain {
        private final int width;
        private final int height;
        private final Row heights = new Row(CELLS);
        private final Row grounds = new Row(CELLS);

        Terrain(int width, int height) {
            this.width = width;
            this.height = height;
        }

        static int number(int x, int y) {
            return y * MOST_SIDE + x;
        }

        boolean has(int x, int y) {
            return x >= 0 && x < width && y >= 0 && y < height;
        }

        int columns() {
            return width;
        }

        int rows() {
            return height;
        }

        int heightOf(int cell) {
            return heights.get(cell);
        }

        int groundOf(int cell) {
            return grounds.get(cell);
        }

        boolean isForbidden(int cell) {
            return grounds.get(cell) == FORBIDDEN;
        }

        int replaceHeight(int cell, int newHeight) {
            int before = heights.get(cell);
            heights.put(cell, newHeight);
            return before;
        }

        int raiseAround(int topX, int topY, int top, int fall) {
            int raised = 0;
            for (int y = 0; y < height; y++) {
                for (int x = 0; x < width; x++) {
                    int away = Math.max(Math.abs(x - topX), Math.abs(y - topY));
                    int least = top - fall * away;
                    if (heights.get(number(x, y)) < least) {
                        heights.put(number(x, y), least);
                        raised++;
                    }
                }
            }
            return raised;
        }

        int cover(int fromX, int fromY, int toX, int toY, int ground) {
            int changed = 0;
            for (int y = fromY; y < height && y <= toY; y++) {
                for (int x = fromX; x < width && x <= toX; x++) {
                    if (grounds.get(number(x, y)) != ground) {
                        grounds.put(number(x, y), ground);
                        changed++;
                    }
                }
            }
            return changed;
        }

        /** The cell beyond one of a cell's four sides; NONE at the edge of the map. */
        int beyond(int cell, int side) {
            int x = cell % MOST_SIDE;
            int y = cell / MOST_SIDE;
            switch (side) {
                case 0:
                    x++;
                    break;
                case 1:
                    x--;
                    break;
                case 2:
                    y++;
                    break;
                default:
                    y--;
                    break;
            }
            return has(x, y) ? number(x, y) : NONE;
        }

        int climbBetween(int from, int to) {
            return Math.max(0, heights.get(to) - heights.get(from));
        }

        /** Without the climb. Forbidden ground costs as a path, for those routes that may go over it. */
        int paceCost(int to) {
            switch (grounds.get(to)) {
                case MEADOW:
                    return 12;
                case WOOD:
                    return 20;
                case MARSH:
                    return 40;
                default:
                    return 10;
            }
        }
    }

    /** The contour lines at one level: a forest of gaps, in which each line is one tree. */
    private static final class Contours {
        private static final int GAPS = 2 * CELLS;

        private final Terrain terrain;
        // NONE where there is no gap; a gap that is its own leader leads its line.
        private final Row leaders = new Row(GAPS);
        private final Row sizes = new Row(GAPS);
        private final Row openEnds = new Row(GAPS);
        private int level;

        Contours(Terrain terrain) {
            this.terrain = terrain;
        }

        void trace(int atLevel) {
            level = atLevel;
            leaders.fill(NONE);
            sizes.fill(0);
            openEnds.fill(0);
            findGaps();
            joinGaps();
            measureLines();
        }

        int lineCount() {
            int count = 0;
            for (int gap = 0; gap < GAPS; gap++) {
                if (sizes.get(gap) > 0) {
                    count++;
                }
            }
            return count;
        }

        int ringCount() {
            int count = 0;
            for (int gap = 0; gap < GAPS; gap++) {
                if (sizes.get(gap) > 0 && openEnds.get(gap) == 0) {
                    count++;
                }
            }
            return count;
        }

        int mostGaps() {
            int most = 0;
            for (int gap = 0; gap < GAPS; gap++) {
                most = Math.max(most, sizes.get(gap));
            }
            return most;
        }

        private static int gapToTheRight(int x, int y) {
            return Terrain.number(x, y);
        }

        private static int gapBelow(int x, int y) {
            return CELLS + Terrain.number(x, y);
        }

        private boolean isHigh(int x, int y) {
            return terrain.heightOf(Terrain.number(x, y)) >= level;
        }

        private boolean isGap(int gap) {
            return leaders.get(gap) != NONE;
        }

        private void findGaps() {
            for (int y = 0; y < terrain.rows(); y++) {
                for (int x = 0; x < terrain.columns(); x++) {
                    boolean high = isHigh(x, y);
                    if (terrain.has(x + 1, y) && high != isHigh(x + 1, y)) {
                        leaders.put(gapToTheRight(x, y), gapToTheRight(x, y));
                    }
                    if (terrain.has(x, y + 1) && high != isHigh(x, y + 1)) {
                        leaders.put(gapBelow(x, y), gapBelow(x, y));
                    }
                }
            }
        }

        private void joinGaps() {
            for (int y = 0; y + 1 < terrain.rows(); y++) {
                for (int x = 0; x + 1 < terrain.columns(); x++) {
                    joinInSquare(x, y);
                }
            }
        }

        /** The square whose first cell is at x and y. It has no gap, two or four. */
        private void joinInSquare(int x, int y) {
            int upper = gapToTheRight(x, y);
            int lower = gapToTheRight(x, y + 1);
            int left = gapBelow(x, y);
            int right = gapBelow(x + 1, y);
            if (isGap(upper) && isGap(lower) && isGap(left) && isGap(right)) {
                // The first cell and the one across from it are alike, and so are the two others.
                if (isHigh(x, y) != joinsLowCells(x, y)) {
                    join(upper, left);
                    join(lower, right);
                } else {
                    join(upper, right);
                    join(lower, left);
                }
                return;
            }
            // With two gaps just one of these pairs has both.
            join(upper, lower);
            join(upper, left);
            join(upper, right);
            join(lower, left);
            join(lower, right);
            join(left, right);
        }

        private boolean joinsLowCells(int x, int y) {
            int first = Terrain.number(x, y);
            int below = Terrain.number(x, y + 1);
            int together = terrain.heightOf(first) + terrain.heightOf(first + 1)
                    + terrain.heightOf(below) + terrain.heightOf(below + 1);
            return together >= 4 * level;
        }

        private void join(int gap, int other) {
            if (isGap(gap) && isGap(other)) {
                leaders.put(leaderOf(gap), leaderOf(other));
            }
        }

        private int leaderOf(int gap) {
            int leader = gap;
            for (int step = 0; step < GAPS && leaders.get(leader) != leader; step++) {
                leader = leaders.get(leader);
            }
            return leader;
        }

        private void measureLines() {
            for (int y = 0; y < terrain.rows(); y++) {
                boolean atEdge = y == 0 || y == terrain.rows() - 1;
                for (int x = 0; x < terrain.columns(); x++) {
                    measureGap(gapToTheRight(x, y), atEdge);
                    measureGap(gapBelow(x, y), x == 0 || x == terrain.columns() - 1);
                }
            }
        }

        /** A gap at the edge of the map is one of one square only, so that its line is no ring. */
        private void measureGap(int gap, boolean atEdge) {
            if (isGap(gap)) {
                sizes.increase(leaderOf(gap), 1);
                openEnds.increase(leaderOf(gap), atEdge ? 1 : 0);
            }
        }
    }

    /** The best routes from one cell to all others, as the last search found them. */
    private static final class Routes {
        private final Terrain terrain;
        private final Row costs = new Row(CELLS);
        private final Row climbs = new Row(CELLS);
        private final Row waiting = new Row(CELLS);
        private int waitingCount;

        Routes(Terrain terrain) {
            this.terrain = terrain;
        }

        int costTo(int cell) {
            return costs.get(cell);
        }

        int climbTo(int cell) {
            return climbs.get(cell);
        }

        void search(int source, boolean overForbidden) {
            begin(source);
            waiting.put(0, source);
            waitingCount = 1;
            // Each cell waits once: a step costs 10 or more, so none gets better after it was taken.
            for (int taken = 0; taken < CELLS && waitingCount > 0; taken++) {
                goOn(takeNearest(), overForbidden);
            }
        }

        void searchByCells(int source) {
            begin(source);
            boolean cheaper = true;
            // No best route comes to a cell twice, so that CELLS rounds are enough.
            for (int round = 0; round < CELLS && cheaper; round++) {
                cheaper = false;
                for (int cell = 0; cell < CELLS; cell++) {
                    cheaper = cheapen(cell) || cheaper;
                }
            }
        }

        private void begin(int source) {
            costs.fill(NONE);
            climbs.fill(NONE);
            costs.put(source, 0);
            climbs.put(source, 0);
        }

        private int takeNearest() {
            int best = 0;
            for (int index = 1; index < waitingCount; index++) {
                if (costs.get(waiting.get(index)) < costs.get(waiting.get(best))) {
                    best = index;
                }
            }
            int cell = waiting.get(best);
            waitingCount--;
            waiting.put(best, waiting.get(waitingCount));
            return cell;
        }

        private void goOn(int cell, boolean overForbidden) {
            for (int side = 0; side < SIDES_OF_A_CELL; side++) {
                int next = terrain.beyond(cell, side);
                if (next != NONE && (overForbidden || !terrain.isForbidden(next))) {
                    int rise = terrain.climbBetween(cell, next);
                    offer(next, costs.get(cell) + terrain.paceCost(next) + 4 * rise, climbs.get(cell) + rise);
                }
            }
        }

        private void offer(int cell, int cost, int climb) {
            int known = costs.get(cell);
            if (known == NONE) {
                waiting.put(waitingCount, cell);
                waitingCount++;
            }
            if (known == NONE || cost < known || cost == known && climb < climbs.get(cell)) {
                costs.put(cell, cost);
                climbs.put(cell, climb);
            }
        }

        /** Whether some cell beside this one can be come to for less from here. */
        private boolean cheapen(int cell) {
            boolean cheaper = false;
            for (int side = 0; side < SIDES_OF_A_CELL && costs.get(cell) != NONE; side++) {
                int next = terrain.beyond(cell, side);
                if (next != NONE && !terrain.isForbidden(next)) {
                    int cost = costs.get(cell) + terrain.paceCost(next) + 4 * terrain.climbBetween(cell, next);
                    if (costs.get(next) == NONE || cost < costs.get(next)) {
                        costs.put(next, cost);
                        cheaper = true;
                    }
                }
            }
            return cheaper;
        }
    }

    private static final class Controls {
        private final Row cells = new Row(MOST_CONTROLS);
        private final Row failed = new Row(MOST_CONTROLS);
        private int count;

        int count() {
            return count;
        }

        int cellOf(int control) {
            return cells.get(control);
        }

        boolean hasFailed(int control) {
            return failed.get(control) == 1;
        }

        boolean standsIn(int cell) {
            for (int control = 0; control < count; control++) {
                if (cells.get(control) == cell) {
                    return true;
                }
            }
            return false;
        }

        int add(int cell) {
            cells.put(count, cell);
            count++;
            return count - 1;
        }

        boolean replaceFailed(int control, boolean hasFailed) {
            boolean before = hasFailed(control);
            failed.put(control, hasFailed ? 1 : 0);
            return before;
        }
    }

    private static final class Courses {
        private final Row controls = new Row(KLASSES * COURSE_LENGTH);
        private final Row lengths = new Row(KLASSES);

        int length(int klass) {
            return lengths.get(klass);
        }

        int legs(int klass) {
            return Math.max(0, lengths.get(klass) - 1);
        }

        /** NONE behind the end of the course. */
        int controlAt(int klass, int index) {
            return index >= 0 && index < lengths.get(klass) ? controls.get(klass * COURSE_LENGTH + index) : NONE;
        }

        int finish(int klass) {
            return controlAt(klass, lengths.get(klass) - 1);
        }

        boolean contains(int klass, int control) {
            for (int index = 0; index < lengths.get(klass); index++) {
                if (controlAt(klass, index) == control) {
                    return true;
                }
            }
            return false;
        }

        boolean beginsOrEndsOne(int control) {
            for (int klass = 0; klass < KLASSES; klass++) {
                if (controlAt(klass, 0) == control || finish(klass) == control) {
                    return true;
                }
            }
            return false;
        }

        int append(int klass, int control) {
            replaceControl(klass, lengths.get(klass), control);
            lengths.increase(klass, 1);
            return lengths.get(klass);
        }

        void replaceControl(int klass, int index, int control) {
            controls.put(klass * COURSE_LENGTH + index, control);
        }
    }

    /** Climbs and costs of whole courses, and the order of a course that comes nearest to a climb. */
    private static final class Planner {
        private final Routes routes;
        private final Controls controls;
        private final Courses courses;
        // Of the legs between any two controls of the course that is put in order.
        private final Row legCosts = new Row(MOST_CONTROLS * MOST_CONTROLS);
        private final Row legClimbs = new Row(MOST_CONTROLS * MOST_CONTROLS);
        private final Row order = new Row(COURSE_LENGTH);
        private final Row bestOrder = new Row(COURSE_LENGTH);
        private int length;
        private int bestOff;
        private int bestCost;
        private int measuredCost;
        private int measuredClimb;

        Planner(Routes routes, Controls controls, Courses courses) {
            this.routes = routes;
            this.controls = controls;
            this.courses = courses;
        }

        int measuredCost() {
            return measuredCost;
        }

        int measuredClimb() {
            return measuredClimb;
        }

        /** Both measures are NONE, if the course has no legs, or one without a route. */
        void measure(int klass) {
            measuredCost = courses.legs(klass) > 0 ? 0 : NONE;
            measuredClimb = measuredCost;
            for (int leg = 0; leg < courses.legs(klass) && measuredCost != NONE; leg++) {
                routes.search(controls.cellOf(courses.controlAt(klass, leg)), false);
                int target = controls.cellOf(courses.controlAt(klass, leg + 1));
                boolean hasRoute = routes.costTo(target) != NONE;
                measuredCost = hasRoute ? measuredCost + routes.costTo(target) : NONE;
                measuredClimb = hasRoute ? measuredClimb + routes.climbTo(target) : NONE;
            }
        }

        int differenceOfClimbs() {
            int most = NONE;
            int least = NONE;
            for (int klass = 0; klass < KLASSES; klass++) {
                measure(klass);
                if (measuredClimb != NONE) {
                    most = Math.max(most, measuredClimb);
                    least = least == NONE ? measuredClimb : Math.min(least, measuredClimb);
                }
            }
            return most - least;
        }

        void reorder(int klass, int wantedClimb) {
            takeOrder(klass);
            sortBetweenEnds();
            measureLegs();
            bestCost = NONE;
            boolean isNew = length >= 2;
            // The orders come from the least row on: of equals the first one is kept.
            for (int tried = 0; tried < MOST_ORDERS && isNew; tried++) {
                judgeOrder(wantedClimb);
                isNew = goToNextOrder();
            }
            for (int index = 0; index < length && bestCost != NONE; index++) {
                courses.replaceControl(klass, index, bestOrder.get(index));
            }
        }

        private void takeOrder(int klass) {
            length = courses.length(klass);
            for (int index = 0; index < length; index++) {
                order.put(index, courses.controlAt(klass, index));
            }
        }

        private void sortBetweenEnds() {
            for (int round = 1; round < length - 2; round++) {
                for (int index = 1; index < length - 2; index++) {
                    if (order.get(index) > order.get(index + 1)) {
                        swap(index, index + 1);
                    }
                }
            }
        }

        private void swap(int index, int other) {
            int control = order.get(index);
            order.put(index, order.get(other));
            order.put(other, control);
        }

        private void measureLegs() {
            for (int from = 0; from < length; from++) {
                int source = order.get(from);
                routes.search(controls.cellOf(source), false);
                for (int to = 0; to < length; to++) {
                    int target = order.get(to);
                    legCosts.put(legNumber(source, target), routes.costTo(controls.cellOf(target)));
                    legClimbs.put(legNumber(source, target), routes.climbTo(controls.cellOf(target)));
                }
            }
        }

        private static int legNumber(int from, int to) {
            return from * MOST_CONTROLS + to;
        }

        private void judgeOrder(int wantedClimb) {
            int cost = 0;
            int climb = 0;
            for (int index = 0; index + 1 < length; index++) {
                int leg = legNumber(order.get(index), order.get(index + 1));
                if (legCosts.get(leg) == NONE) {
                    return;
                }
                cost += legCosts.get(leg);
                climb += legClimbs.get(leg);
            }
            int off = Math.abs(climb - wantedClimb);
            if (bestCost == NONE || off < bestOff || off == bestOff && cost < bestCost) {
                keepOrder(off, cost);
            }
        }

        private void keepOrder(int off, int cost) {
            bestOff = off;
            bestCost = cost;
            for (int index = 0; index < length; index++) {
                bestOrder.put(index, order.get(index));
            }
        }

        /** Goes to the next greater row of the controls between the ends; tells whether there is one. */
        private boolean goToNextOrder() {
            int turn = length - 3;
            while (turn >= 1 && order.get(turn) > order.get(turn + 1)) {
                turn--;
            }
            if (turn < 1) {
                return false;
            }
            int greater = length - 2;
            while (greater > turn && order.get(greater) < order.get(turn)) {
                greater--;
            }
            swap(turn, greater);
            int right = length - 2;
            for (int left = turn + 1; left < right; left++) {
                swap(left, right);
                right--;
            }
            return true;
        }
    }

    /** The runners, their starts and their punches. */
    private static final class Entries {
        private final Row klasses = new Row(MOST_RUNNERS);
        private final Row clubs = new Row(MOST_RUNNERS);
        private final Row lots = new Row(MOST_RUNNERS);
        private final Row starts = new Row(MOST_RUNNERS);
        private final Row punchCounts = new Row(MOST_RUNNERS);
        private final Row punchedControls = new Row(MOST_RUNNERS * MOST_PUNCHES);
        private final Row punchedMinutes = new Row(MOST_RUNNERS * MOST_PUNCHES);
        private int count;
        private boolean drawn;

        int count() {
            return count;
        }

        boolean areDrawn() {
            return drawn;
        }

        int klassOf(int runner) {
            return klasses.get(runner);
        }

        int startMinute(int runner) {
            return starts.get(runner);
        }

        int add(int klass, int club) {
            klasses.put(count, klass);
            clubs.put(count, club);
            starts.put(count, NONE);
            count++;
            return count - 1;
        }

        int drawStarts(int seed, int gap) {
            int lot = seed;
            for (int runner = 0; runner < count; runner++) {
                lot = (421 * lot + 1663) % LOTS;
                lots.put(runner, lot);
            }
            int last = 0;
            for (int klass = 0; klass < KLASSES; klass++) {
                last = Math.max(last, startKlass(klass, gap));
            }
            drawn = true;
            return last;
        }

        /** The minute of the last start in the class; 0 if it has no runners. */
        private int startKlass(int klass, int gap) {
            int last = 0;
            int runner = leastLot(klass, NONE);
            for (int placed = 0; placed < count && runner != NONE; placed++) {
                last = placed * gap;
                starts.put(runner, last);
                int other = leastLot(klass, clubs.get(runner));
                runner = other != NONE ? other : leastLot(klass, NONE);
            }
            return last;
        }

        /** Among those of the class who have no start yet and are not of the club that was put last. */
        private int leastLot(int klass, int lastClub) {
            int least = NONE;
            for (int runner = 0; runner < count; runner++) {
                boolean isLeft = klasses.get(runner) == klass && starts.get(runner) == NONE;
                if (isLeft && clubs.get(runner) != lastClub && (least == NONE || lots.get(runner) < lots.get(least))) {
                    least = runner;
                }
            }
            return least;
        }

        int punchCount(int runner) {
            return punchCounts.get(runner);
        }

        int punchedControl(int runner, int punch) {
            return punchedControls.get(runner * MOST_PUNCHES + punch);
        }

        int punchedMinute(int runner, int punch) {
            return punchedMinutes.get(runner * MOST_PUNCHES + punch);
        }

        int earliestPunch(int runner) {
            int told = punchCounts.get(runner);
            return told > 0 ? punchedMinute(runner, told - 1) : starts.get(runner);
        }

        void addPunch(int runner, int control, int minute) {
            int place = runner * MOST_PUNCHES + punchCounts.get(runner);
            punchedControls.put(place, control);
            punchedMinutes.put(place, minute);
            punchCounts.increase(runner, 1);
        }

        boolean hasPunched(int runner, int control) {
            for (int punch = 0; punch < punchCounts.get(runner); punch++) {
                if (punchedControl(runner, punch) == control) {
                    return true;
                }
            }
            return false;
        }
    }

    /** What the punches amount to. All is reckoned anew for each question, as any control may fail between two. */
    private static final class Results {
        private final Controls controls;
        private final Courses courses;
        private final Entries entries;
        // At which minute each control of the runner's course counted: its start does at the runner's start.
        private final Row minutes = new Row(MOST_RUNNERS * COURSE_LENGTH);
        private final Row splits = new Row(MOST_RUNNERS * COURSE_LENGTH);
        private final Row counted = new Row(MOST_RUNNERS);
        private final Row states = new Row(MOST_RUNNERS);
        private final Row totals = new Row(MOST_RUNNERS);

        Results(Controls controls, Courses courses, Entries entries) {
            this.controls = controls;
            this.courses = courses;
            this.entries = entries;
        }

        void reckon() {
            minutes.fill(NONE);
            counted.fill(0);
            for (int runner = 0; runner < entries.count(); runner++) {
                followPunches(runner);
                reckonSplits(runner);
            }
        }

        int countedPunches(int runner) {
            return counted.get(runner);
        }

        int state(int runner) {
            return states.get(runner);
        }

        int totalMinutes(int runner) {
            return totals.get(runner);
        }

        int splitMinutes(int runner, int leg) {
            return splits.get(runner * COURSE_LENGTH + leg);
        }

        int place(int runner) {
            if (states.get(runner) != RANKED) {
                return NONE;
            }
            int place = 1;
            for (int other = 0; other < entries.count(); other++) {
                boolean isRival = states.get(other) == RANKED && entries.klassOf(other) == entries.klassOf(runner);
                if (isRival && totals.get(other) < totals.get(runner)) {
                    place++;
                }
            }
            return place;
        }

        int lostMinutes(int runner, int leg) {
            int klass = entries.klassOf(runner);
            if (states.get(runner) != RANKED || isVoid(klass, leg)) {
                return NONE;
            }
            int due = bestSplit(klass, leg) * pace(runner) / 1000;
            return Math.max(0, splitMinutes(runner, leg) - due);
        }

        private void followPunches(int runner) {
            int klass = entries.klassOf(runner);
            minutes.put(runner * COURSE_LENGTH, entries.startMinute(runner));
            int next = nextToCount(klass, 0);
            for (int punch = 0; punch < entries.punchCount(runner); punch++) {
                if (entries.punchedControl(runner, punch) == courses.controlAt(klass, next)) {
                    minutes.put(runner * COURSE_LENGTH + next, entries.punchedMinute(runner, punch));
                    counted.increase(runner, 1);
                    next = nextToCount(klass, next);
                }
            }
            boolean hasAll = next >= courses.length(klass);
            boolean isAtFinish = entries.hasPunched(runner, courses.finish(klass));
            states.put(runner, hasAll ? RANKED : isAtFinish ? WRONG : RUNNING);
        }

        /** The next index of the course whose control has not failed; the length of the course if there is none. */
        private int nextToCount(int klass, int index) {
            int next = index + 1;
            while (next < courses.length(klass) && controls.hasFailed(courses.controlAt(klass, next))) {
                next++;
            }
            return next;
        }

        private void reckonSplits(int runner) {
            int klass = entries.klassOf(runner);
            int sum = 0;
            for (int leg = 0; leg < courses.legs(klass); leg++) {
                int place = runner * COURSE_LENGTH + leg;
                int from = minutes.get(place);
                int to = minutes.get(place + 1);
                boolean hasSplit = from != NONE && to != NONE && !isVoid(klass, leg);
                splits.put(place, hasSplit ? to - from : NONE);
                sum += hasSplit ? to - from : 0;
            }
            totals.put(runner, states.get(runner) == RANKED ? sum : NONE);
        }

        private boolean isVoid(int klass, int leg) {
            return controls.hasFailed(courses.controlAt(klass, leg))
                    || controls.hasFailed(courses.controlAt(klass, leg + 1));
        }

        private int pace(int runner) {
            int klass = entries.klassOf(runner);
            int bestTogether = 0;
            for (int leg = 0; leg < courses.legs(klass); leg++) {
                bestTogether += isVoid(klass, leg) ? 0 : Math.max(0, bestSplit(klass, leg));
            }
            return bestTogether > 0 ? 1000 * totals.get(runner) / bestTogether : 1000;
        }

        /** Of the leg's two controls, on whatever course they follow one another. NONE if nobody RANKED has a split. */
        private int bestSplit(int klass, int leg) {
            int from = courses.controlAt(klass, leg);
            int to = courses.controlAt(klass, leg + 1);
            int best = NONE;
            for (int runner = 0; runner < entries.count(); runner++) {
                int split = states.get(runner) == RANKED ? splitBetween(runner, from, to) : NONE;
                if (split != NONE && (best == NONE || split < best)) {
                    best = split;
                }
            }
            return best;
        }

        private int splitBetween(int runner, int from, int to) {
            int klass = entries.klassOf(runner);
            for (int leg = 0; leg < courses.legs(klass); leg++) {
                if (courses.controlAt(klass, leg) == from && courses.controlAt(klass, leg + 1) == to) {
                    return splitMinutes(runner, leg);
                }
            }
            return NONE;
        }
    }
}
