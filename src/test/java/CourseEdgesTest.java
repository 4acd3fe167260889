/** The edges that promises 5 to 7 and 16 to 23 name: each check is told by its promise's number. */
final class CourseEdgesTest {
    private static final Check check = new Check();
    private static final int WIDTH = 5;
    private static final int HEIGHT = 4;
    private static final int CONTROLS = 5;

    public static void main(String[] args) {
        Unchanged told = new Unchanged(check, CourseEdgesTest::withCourses);
        Unchanged drawn = new Unchanged(check, CourseEdgesTest::drawn);
        control();
        controlRefused(told);
        twelveControls();
        visit();
        visitRefused(told, drawn);
        arrangeClimbs();
        arrangeNone();
        arrangeByAllThree();
        arrangeOfSix();
        arrangeRefused(told, drawn);
        routesOfNone();
        routesToThemselves();
        leastClimb();
        leastClimbOfWhicheverIsFirst();
        tempts();
        routesRefused(told);
        courseAt(told);
        courseClimbAndCost(told);
        spread();
        check.end("CourseEdgesTest");
    }

    /** A ridge in column 2; five controls; courses of six, of one control, of two and of none; forbidden ground at 3 0. */
    private static Spurline withCourses() {
        Spurline club = new Spurline(WIDTH, HEIGHT);
        for (int y = 0; y < HEIGHT; y++) {
            club.setHeight(2, y, 5 + y);
        }
        club.setGround(3, 0, 3, 0, 4);
        for (int control = 0; control < CONTROLS; control++) {
            club.control(control, 3 - control % 2);
        }
        Calls.visitAll(club, 0, 0, 3, 2, 1, 4);
        Calls.visitAll(club, 1, 2);
        Calls.visitAll(club, 3, 4, 0);
        club.fail(3, true);
        club.enter(0, 7);
        club.enter(3, 0);
        return club;
    }

    private static Spurline drawn() {
        Spurline club = withCourses();
        club.draw(7874, 10);
        club.punch(1, 0, 40);
        return club;
    }

    /** A flat strip with a control in each column, in its first row. */
    private static Spurline strip(int width) {
        Spurline club = new Spurline(width, 2);
        for (int control = 0; control < width; control++) {
            club.control(control, 0);
        }
        return club;
    }

    private static void control() {
        check.about(5);
        Spurline club = new Spurline(12, 12);
        check.due("the first cell", club.control(0, 0), 0);
        check.due("the last cell", club.control(11, 11), 1);
        check.due("the last of the first row", club.control(11, 0), 2);
        check.due("the first of the last row", club.control(0, 11), 3);
        for (int ground = 1; ground < 4; ground++) {
            club.setGround(ground, 5, ground, 5, ground);
            check.due("ground " + ground, club.control(ground, 5), 3 + ground);
        }
        club.setGround(0, 0, 11, 11, 4);
        check.refused("forbidden ground", Check.STATE, () -> club.control(6, 6));
        check.refused("forbidden, and has one", Check.STATE, () -> club.control(0, 0));
        club.setGround(6, 6, 6, 6, 0);
        check.due("forbidden no more", club.control(6, 6), 7);
    }

    private static void controlRefused(Unchanged told) {
        check.about(5);
        told.cellsBeyond("no such cell", WIDTH, HEIGHT, (club, x, y) -> club.control(x, y));
        told.refused("forbidden", Check.STATE, club -> club.control(3, 0));
        told.refused("the cell has control 0", Check.STATE, club -> club.control(0, 3));
        told.refused("the cell has control 4", Check.STATE, club -> club.control(4, 3));
    }

    private static Spurline full() {
        Spurline club = strip(12);
        club.setGround(0, 1, 0, 1, 4);
        return club;
    }

    private static void twelveControls() {
        check.about(5);
        Spurline club = new Spurline(12, 2);
        for (int control = 0; control < 12; control++) {
            check.due("of twelve", club.control(control, 0), control);
        }
        check.due("the twelfth is there", club.cost(0, 11), 110);
        Unchanged twelve = new Unchanged(check, CourseEdgesTest::full);
        twelve.refused("a thirteenth", Check.STATE, other -> other.control(1, 1));
        twelve.refused("a thirteenth on forbidden ground", Check.STATE, other -> other.control(0, 1));
        twelve.refused("a thirteenth where one is", Check.STATE, other -> other.control(11, 0));
        twelve.cellsBeyond("no such cell ahead of 12 controls", 12, 2, (other, x, y) -> other.control(x, y));
    }

    private static void visit() {
        check.about(6);
        Spurline club = strip(12);
        for (int klass = 0; klass < 5; klass++) {
            check.due("the last control in class " + klass, club.visit(klass, 11), 1);
            check.due("the first control in class " + klass, club.visit(klass, 0), 2);
        }
        for (int control = 1; control < 5; control++) {
            club.fail(control, true);
            check.due("failed control " + control, club.visit(4, control), control + 2);
        }
        check.isCourse("six of them", club, 4, 11, 0, 1, 2, 3, 4);
        club.enter(4, 0);
        check.due("after an entry", club.visit(0, 5), 3);
    }

    private static void visitRefused(Unchanged told, Unchanged drawn) {
        check.about(6);
        told.numbersBeyond("class", 0, 4, Check.INDEX, (club, klass) -> club.visit(klass, 1));
        told.numbersBeyond("control", 0, CONTROLS - 1, Check.INDEX, (club, control) -> club.visit(2, control));
        told.refused("control 12", Check.INDEX, club -> club.visit(2, 12));
        told.refused("neither class nor control", Check.INDEX, club -> club.visit(5, -1));
        for (int control = 0; control < CONTROLS; control++) {
            int again = control;
            told.refused("has control already: " + control, Check.STATE, club -> club.visit(0, again));
        }
        told.refused("has its only one already", Check.STATE, club -> club.visit(1, 2));
        for (int number = 0; number < 5; number++) {
            int klass = number;
            drawn.refused("starts were drawn, class " + klass, Check.STATE, club -> club.visit(klass, klass == 1 ? 0 : 2));
        }
        drawn.numbersBeyond("starts were drawn, but no class", 0, 4, Check.INDEX, (club, klass) -> club.visit(klass, 1));
        drawn.numbersBeyond("starts were drawn, but no control", 0, CONTROLS - 1, Check.INDEX,
                (club, control) -> club.visit(2, control));
        Unchanged six = new Unchanged(check, CourseEdgesTest::courseOfSix);
        six.refused("a seventh", Check.STATE, club -> club.visit(2, 6));
        six.refused("a seventh that it has", Check.STATE, club -> club.visit(2, 0));
        six.numbersBeyond("no control ahead of six", 0, 6, Check.INDEX, (club, control) -> club.visit(2, control));
    }

    private static Spurline courseOfSix() {
        Spurline club = strip(7);
        Calls.visitAll(club, 2, 5, 2, 4, 1, 3, 0);
        return club;
    }

    /** Climbs of 10, if control 1, which stands on a ridge, comes first; otherwise 20. */
    private static Spurline ridge() {
        Spurline club = strip(7);
        club.setHeight(3, 0, 10);
        club.setHeight(3, 1, 10);
        Calls.visitAll(club, 0, 0, 3, 5, 6);
        return club;
    }

    private static void arrangeClimbs() {
        check.about(7);
        Spurline club = ridge();
        check.due("the greatest climb", club.arrange(0, 9999), 20);
        check.isCourse("climb 9999", club, 0, 0, 5, 3, 6);
        check.due("the least climb", club.arrange(0, 0), 10);
        check.isCourse("climb 0", club, 0, 0, 3, 5, 6);
        check.due("just its climb", club.arrange(0, 20), 20);
        check.due("one below the middle", club.arrange(0, 14), 10);
        check.due("one above the middle", club.arrange(0, 16), 20);
        check.due("as near from above as from below: the least cost", club.arrange(0, 15), 10);
        for (int klass = 1; klass < 5; klass++) {
            Calls.visitAll(club, klass, 6, 0);
            check.due("class " + klass, club.arrange(klass, 9999), 10);
        }
    }

    private static void arrangeNone() {
        check.about(7);
        Spurline club = ridge();
        check.due("no controls", club.arrange(1, 0), Spurline.NONE);
        check.refused("still none", Check.INDEX, () -> club.courseAt(1, 0));
        club.visit(1, 5);
        check.due("one control: no legs", club.arrange(1, 0), Spurline.NONE);
        check.isCourse("one control", club, 1, 5);
        club.visit(1, 4);
        check.due("two controls: one leg, no climb", club.arrange(1, 9999), 0);
        check.isCourse("two controls", club, 1, 5, 4);
        club.visit(1, 0);
        check.due("three controls", club.arrange(1, 9999), 10);
        check.isCourse("three controls", club, 1, 5, 4, 0);
        club.arrange(0, 20);
        club.setGround(6, 0, 6, 0, 4);
        check.due("no route to the finish", club.arrange(0, 10), Spurline.NONE);
        check.isCourse("all stays", club, 0, 0, 5, 3, 6);
        check.due("nor later", club.courseClimb(0), Spurline.NONE);
        club.setGround(6, 0, 6, 0, 0);
        club.setGround(3, 0, 3, 0, 4);
        check.due("no route to one between", club.arrange(0, 10), Spurline.NONE);
        check.isCourse("all stays again", club, 0, 0, 5, 3, 6);
        club.setGround(3, 0, 3, 0, 0);
        club.setGround(0, 0, 0, 1, 4);
        check.due("no route back to the start", club.arrange(0, 10), 10);
        check.isCourse("is none of its legs", club, 0, 0, 3, 5, 6);
    }

    /** Each test decides only where those ahead of it do not. */
    private static void arrangeByAllThree() {
        check.about(7);
        Spurline club = strip(12);
        club.setHeight(11, 0, 3);
        club.setHeight(11, 1, 3);
        Calls.visitAll(club, 0, 5, 11, 10, 0, 4);
        check.due("all orders have one climb", club.arrange(0, 3), 3);
        // 5 11 10 0 4 costs as much; 5 0 10 11 4 is a lesser row that costs more.
        check.isCourse("of one cost: the least row", club, 0, 5, 10, 11, 0, 4);
        check.due("which costs", club.courseCost(0), 10 * (5 + 1 + 11 + 4) + 12);
        check.due("with a greater climb wanted", club.arrange(0, 9999), 3);
        check.isCourse("the same row", club, 0, 5, 10, 11, 0, 4);
        Calls.visitAll(club, 1, 8, 2, 4, 6, 1);
        check.due("flat", club.arrange(1, 0), 0);
        check.isCourse("the one of less cost, though its row is the greatest", club, 1, 8, 6, 4, 2, 1);
        check.due("its cost", club.courseCost(1), 70);
    }

    /** Four between the ends: each of their 24 orders is the cheapest one on some strip. */
    private static void arrangeOfSix() {
        check.about(7);
        int made = 0;
        for (int number = 0; number < 256; number++) {
            int[] order = {number / 64, number / 16 % 4, number / 4 % 4, number % 4};
            if ((1 << order[0] | 1 << order[1] | 1 << order[2] | 1 << order[3]) == 15) {
                isFoundAlone(order);
                made++;
            }
        }
        check.due("orders of four", made, 24);
    }

    private static void isFoundAlone(int[] order) {
        Spurline club = new Spurline(12, 2);
        int[] columns = new int[4];
        for (int place = 0; place < 4; place++) {
            columns[order[place]] = 2 + 2 * place;
        }
        for (int column : columns) {
            club.control(column, 0);
        }
        int start = club.control(0, 0);
        int finish = club.control(11, 0);
        Calls.visitAll(club, 4, start, 1, 3, 0, 2, finish);
        check.due("the climb of six", club.arrange(4, 0), 0);
        check.isCourse("six", club, 4, start, order[0], order[1], order[2], order[3], finish);
        check.due("the cost of six", club.courseCost(4), 110);
    }

    private static void arrangeRefused(Unchanged told, Unchanged drawn) {
        check.about(7);
        told.numbersBeyond("class", 0, 4, Check.INDEX, (club, klass) -> club.arrange(klass, 0));
        told.numbersBeyond("climb", 0, 9999, Check.ARGUMENT, (club, climb) -> club.arrange(0, climb));
        told.numbersBeyond("climb of no course", 0, 9999, Check.ARGUMENT, (club, climb) -> club.arrange(2, climb));
        told.numbersBeyond("no class ahead of the climb", 0, 4, Check.INDEX, (club, klass) -> club.arrange(klass, -1));
        for (int number = 0; number < 5; number++) {
            int klass = number;
            drawn.refused("starts were drawn, class " + klass, Check.STATE, club -> club.arrange(klass, 0));
        }
        drawn.numbersBeyond("climb ahead of the draw", 0, 9999, Check.ARGUMENT, (club, climb) -> club.arrange(0, climb));
        drawn.numbersBeyond("no class ahead of the draw", 0, 4, Check.INDEX, (club, klass) -> club.arrange(klass, 0));
        drawn.numbersBeyond("no class ahead of both", 0, 4, Check.INDEX, (club, klass) -> club.arrange(klass, 10000));
    }

    private static void isRoute(String what, Spurline club, int from, int to, int cost, int climb) {
        check.about(16);
        check.due(what + ": cost", club.cost(from, to), cost);
        check.about(17);
        check.due(what + ": costByCells", club.costByCells(from, to), cost);
        check.about(18);
        check.due(what + ": climb", club.climb(from, to), climb);
    }

    private static void isTempting(String what, boolean due, boolean got) {
        check.about(19);
        check.due(what, got ? 1 : 0, due ? 1 : 0);
    }

    private static void routesOfNone() {
        Spurline club = strip(12);
        isRoute("from the first to the last", club, 0, 11, 110, 0);
        isRoute("and back", club, 11, 0, 110, 0);
        club.setGround(6, 0, 6, 1, 4);
        isRoute("behind forbidden ground", club, 0, 11, Spurline.NONE, Spurline.NONE);
        isTempting("no best route", true, club.tempts(0, 11));
        isRoute("up to it", club, 0, 5, 50, 0);
        isRoute("to a control on it", club, 5, 6, Spurline.NONE, Spurline.NONE);
        isTempting("to a control on it", true, club.tempts(5, 6));
        isRoute("away from it to one side", club, 6, 0, 60, 0);
        isRoute("and to the other side", club, 6, 11, 50, 0);
        isTempting("away from it", false, club.tempts(6, 11));
        club.setHeight(6, 0, 255);
        club.setHeight(6, 1, 255);
        isTempting("no best route, however high it is between", true, club.tempts(0, 11));
        club.setGround(0, 0, 11, 1, 4);
        isRoute("all ground is forbidden", club, 0, 1, Spurline.NONE, Spurline.NONE);
        isTempting("all ground is forbidden", true, club.tempts(0, 1));
    }

    private static void routesToThemselves() {
        Spurline club = strip(12);
        club.setHeight(11, 0, 255);
        club.setGround(11, 0, 11, 0, 3);
        club.setGround(5, 0, 5, 0, 4);
        for (int control : new int[] {0, 5, 11}) {
            isRoute("the same, " + control, club, control, control, 0, 0);
            isTempting("the same, " + control, false, club.tempts(control, control));
        }
        club.setGround(0, 0, 11, 1, 4);
        isRoute("the same, where one cannot go anywhere", club, 0, 0, 0, 0);
        isTempting("the same, where one cannot go anywhere", false, club.tempts(0, 0));
    }

    private static void leastClimb() {
        Spurline club = new Spurline(3, 2);
        club.control(0, 0);
        club.control(2, 0);
        club.setHeight(1, 0, 4);
        isRoute("36 over the hill, 40 around", club, 0, 1, 36, 4);
        club.setHeight(1, 0, 5);
        isRoute("40 both ways: the least climb", club, 0, 1, 40, 0);
        club.setHeight(0, 0, 5);
        isRoute("no climb downhill", club, 0, 1, 20, 0);
        isRoute("the least climb back", club, 1, 0, 40, 5);
        club.setHeight(0, 0, 255);
        isRoute("the greatest climb of a step", club, 1, 0, 20 + 4 * 255, 255);
    }

    /** Two routes that cost the same: each time the other one comes to the last cell first. */
    private static void leastClimbOfWhicheverIsFirst() {
        Spurline club = new Spurline(3, 2);
        club.control(0, 0);
        club.control(2, 0);
        club.setHeight(1, 0, 10);
        club.setHeight(2, 0, 5);
        // Over the hill 20 and 4 times 10, around it 40 and 4 times 5 for the last step.
        isRoute("around, as the last step goes up", club, 0, 1, 60, 5);
        Spurline valley = new Spurline(4, 2);
        valley.control(0, 0);
        valley.control(3, 0);
        for (int x = 1; x < 4; x++) {
            valley.setHeight(x, 0, x % 2 * 5);
            valley.setHeight(x, 1, 5);
        }
        // Through the valley 30 and 4 times 5 twice, around it 50 and 4 times 5.
        isRoute("around the valley", valley, 0, 1, 70, 5);
    }

    private static void tempts() {
        Spurline club = new Spurline(3, 2);
        club.control(0, 0);
        club.control(2, 0);
        isTempting("no forbidden ground", false, club.tempts(0, 1));
        club.setGround(1, 0, 1, 0, 4);
        isTempting("20 as over a path, 40 around", true, club.tempts(0, 1));
        club.setHeight(1, 0, 4);
        isTempting("36 over it", true, club.tempts(0, 1));
        club.setHeight(1, 0, 5);
        isTempting("40 over it: not less", false, club.tempts(0, 1));
        club.setGround(2, 1, 2, 1, 1);
        isTempting("42 around", true, club.tempts(0, 1));
        isTempting("42 around the other way", true, club.tempts(1, 0));
    }

    private static void routesRefused(Unchanged told) {
        check.about(16);
        controlsBeyond(told, (club, from, to) -> club.cost(from, to));
        check.about(17);
        controlsBeyond(told, (club, from, to) -> club.costByCells(from, to));
        check.about(18);
        controlsBeyond(told, (club, from, to) -> club.climb(from, to));
        check.about(19);
        controlsBeyond(told, (club, from, to) -> club.tempts(from, to) ? 1 : 0);
    }

    private static void controlsBeyond(Unchanged told, Unchanged.CellCall call) {
        told.numbersBeyond("from", 0, CONTROLS - 1, Check.INDEX, (club, from) -> call.answer(club, from, 0));
        told.numbersBeyond("to", 0, CONTROLS - 1, Check.INDEX, (club, to) -> call.answer(club, 0, to));
        told.numbersBeyond("both the same", 0, CONTROLS - 1, Check.INDEX, (club, both) -> call.answer(club, both, both));
        told.refused("to 12", Check.INDEX, club -> call.answer(club, 0, 12));
        told.refused("neither", Check.INDEX, club -> call.answer(club, -1, CONTROLS));
        Spurline full = strip(12);
        check.due("11 of twelve to itself", call.answer(full, 11, 11), 0);
        check.refused("from 12 of twelve", Check.INDEX, () -> call.answer(full, 12, 0));
        check.refused("to 12 of twelve", Check.INDEX, () -> call.answer(full, 0, 12));
        Spurline none = new Spurline(2, 2);
        check.refused("0 of none", Check.INDEX, () -> call.answer(none, 0, 0));
    }

    private static void courseAt(Unchanged told) {
        check.about(20);
        Spurline club = courseOfSix();
        int[] course = {5, 2, 4, 1, 3, 0};
        for (int index = 0; index < 6; index++) {
            check.due("index " + index + " of six", club.courseAt(2, index), course[index]);
        }
        check.refused("index 6 of six", Check.INDEX, () -> club.courseAt(2, 6));
        check.refused("index 0 of the class behind", Check.INDEX, () -> club.courseAt(3, 0));
        told.numbersBeyond("index of five", 0, 4, Check.INDEX, (other, index) -> other.courseAt(0, index));
        told.numbersBeyond("index of one", 0, 0, Check.INDEX, (other, index) -> other.courseAt(1, index));
        told.refused("index 0 of none", Check.INDEX, other -> other.courseAt(2, 0));
        told.refused("index -1 of none", Check.INDEX, other -> other.courseAt(2, -1));
        told.numbersBeyond("class", 0, 4, Check.INDEX, (other, klass) -> other.courseAt(klass, 0));
        told.refused("class 4 without a course", Check.INDEX, other -> other.courseAt(4, 0));
    }

    private static void measures(String what, Spurline club, int klass, int climb, int cost) {
        check.about(21);
        check.due(what + ": courseClimb", club.courseClimb(klass), climb);
        check.about(22);
        check.due(what + ": courseCost", club.courseCost(klass), cost);
    }

    private static void courseClimbAndCost(Unchanged told) {
        Spurline club = ridge();
        measures("no controls", club, 4, Spurline.NONE, Spurline.NONE);
        club.visit(4, 6);
        measures("one control: no legs", club, 4, Spurline.NONE, Spurline.NONE);
        club.visit(4, 5);
        measures("one leg without a climb", club, 4, 0, 10);
        Calls.visitAll(club, 4, 4, 2, 1, 0);
        measures("five legs", club, 4, 10, 60 + 40);
        club.setGround(0, 0, 0, 0, 4);
        measures("no route for the last leg", club, 4, Spurline.NONE, Spurline.NONE);
        measures("away from forbidden ground", club, 0, 10, 60 + 40);
        club.setGround(0, 0, 0, 0, 0);
        club.setGround(5, 0, 5, 0, 4);
        measures("no route for the first leg", club, 4, Spurline.NONE, Spurline.NONE);
        club.setGround(5, 0, 5, 0, 0);
        club.setGround(2, 0, 2, 0, 4);
        measures("no route for one between", club, 4, Spurline.NONE, Spurline.NONE);
        measures("a course around it", club, 0, 10, 80 + 40);
        check.about(21);
        told.numbersBeyond("class", 0, 4, Check.INDEX, (other, klass) -> other.courseClimb(klass));
        check.about(22);
        told.numbersBeyond("class", 0, 4, Check.INDEX, (other, klass) -> other.courseCost(klass));
    }

    private static void spread() {
        check.about(23);
        Spurline club = strip(12);
        check.due("no courses", club.spread(), 0);
        club.visit(0, 0);
        club.visit(4, 3);
        check.due("none has legs", club.spread(), 0);
        club.setHeight(3, 0, 40);
        club.setHeight(3, 1, 40);
        club.visit(4, 4);
        check.due("one flat course", club.spread(), 0);
        club.visit(0, 4);
        check.due("the first and the last class", club.spread(), 40);
        Calls.visitAll(club, 2, 4, 2, 5, 1);
        check.due("the greatest one between them", club.spread(), 120);
        Calls.visitAll(club, 1, 3, 2);
        check.due("two flat ones", club.spread(), 120);
        club.setGround(1, 0, 1, 0, 4);
        check.due("a course without a climb is left out", club.spread(), 40);
        club.setGround(0, 0, 11, 1, 4);
        check.due("none has a climb", club.spread(), 0);
    }
}
