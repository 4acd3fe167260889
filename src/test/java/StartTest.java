/** Promises 8, 9, 24 and 25: enter, draw, runners, startOf. */
final class StartTest {
    private static final Check check = new Check();

    public static void main(String[] args) {
        enter();
        enterRefuses();
        drawByLots();
        drawKeepsClubsApart();
        drawOneClubLeft();
        drawClassesApart();
        drawEdges();
        drawRefuses();
        startOf();
        check.end("StartTest");
    }

    private static Spurline withCourses() {
        Spurline club = new Spurline(4, 2);
        for (int control = 0; control < 4; control++) {
            club.control(control, 0);
        }
        for (int klass = 0; klass < 5; klass++) {
            club.visit(klass, 0);
            club.visit(klass, 1);
        }
        return club;
    }

    private static void enter() {
        Spurline club = withCourses();
        check.due("no runners", club.runners(), 0);
        for (int runner = 0; runner < 24; runner++) {
            check.due("enter " + runner, club.enter(runner % 5, runner % 8), runner);
            check.due("runners", club.runners(), runner + 1);
        }
        check.refused("enter a 25th", Check.STATE, () -> club.enter(0, 0));
        check.due("still 24", club.runners(), 24);
    }

    private static void enterRefuses() {
        Spurline club = withCourses();
        check.refused("enter class -1", Check.INDEX, () -> club.enter(-1, 0));
        check.refused("enter class 5", Check.INDEX, () -> club.enter(5, 0));
        check.refused("enter club -1", Check.ARGUMENT, () -> club.enter(0, -1));
        check.refused("enter club 8", Check.ARGUMENT, () -> club.enter(0, 8));
        check.refused("class comes first", Check.INDEX, () -> club.enter(5, 8));
        Spurline short0 = new Spurline(3, 3);
        short0.control(0, 0);
        short0.control(1, 0);
        check.refused("a course without controls", Check.STATE, () -> short0.enter(0, 0));
        short0.visit(0, 0);
        check.refused("a course of one control", Check.STATE, () -> short0.enter(0, 0));
        check.refused("club comes ahead of the course", Check.ARGUMENT, () -> short0.enter(0, 8));
        short0.visit(0, 1);
        check.due("a course of two", short0.enter(0, 7), 0);
        check.refused("another class without", Check.STATE, () -> short0.enter(1, 0));
        short0.draw(0, 1);
        check.refused("enter after the draw", Check.STATE, () -> short0.enter(0, 0));
        check.refused("club comes ahead of the draw", Check.ARGUMENT, () -> short0.enter(0, -1));
        check.due("nothing changed", short0.runners(), 1);
    }

    /** Of seed 0 the lots are 1663, 911, 7194, 6337, 7790, 5253. */
    private static void drawByLots() {
        Spurline club = withCourses();
        for (int runner = 0; runner < 6; runner++) {
            club.enter(1, runner);
        }
        check.due("draw of seed 0", club.draw(0, 3), 15);
        check.areStarts("seed 0", club, 3, 0, 12, 9, 15, 6);
    }

    private static void drawKeepsClubsApart() {
        Spurline club = withCourses();
        int[] clubs = {2, 0, 1, 0, 0, 0};
        for (int number : clubs) {
            club.enter(1, number);
        }
        // By lots alone: 1, 0, 5, 3, 2, 4.
        check.due("draw with clubs", club.draw(0, 2), 10);
        check.areStarts("clubs apart", club, 2, 0, 6, 8, 10, 4);
    }

    private static void drawOneClubLeft() {
        Spurline club = withCourses();
        for (int runner = 0; runner < 6; runner++) {
            club.enter(0, 5);
        }
        check.due("draw of one club", club.draw(0, 1), 5);
        check.areStarts("one club", club, 1, 0, 4, 3, 5, 2);
    }

    private static void drawClassesApart() {
        Spurline club = withCourses();
        int[] klasses = {0, 1, 0, 1, 4, 0};
        for (int klass : klasses) {
            club.enter(klass, 3);
        }
        // Lots go on from runner to runner, of whatever class.
        check.due("draw of three classes", club.draw(0, 10), 20);
        check.areStarts("three classes", club, 0, 0, 20, 10, 0, 10);
    }

    private static void drawEdges() {
        Spurline club = withCourses();
        club.enter(0, 0);
        check.due("one runner", club.draw(7874, 10), 0);
        check.areStarts("one runner", club, 0);
        Spurline full = withCourses();
        for (int runner = 0; runner < 24; runner++) {
            full.enter(2, 0);
        }
        check.due("24 runners", full.draw(5, 10), 230);
        boolean[] taken = new boolean[24];
        for (int runner = 0; runner < 24; runner++) {
            taken[full.startOf(runner) / 10] = true;
        }
        for (int place = 0; place < 24; place++) {
            check.isTrue("somebody starts as " + place, taken[place]);
        }
    }

    private static void drawRefuses() {
        Spurline club = withCourses();
        check.refused("draw without runners", Check.STATE, () -> club.draw(0, 1));
        check.refused("seed comes ahead of no runners", Check.ARGUMENT, () -> club.draw(-1, 1));
        club.enter(0, 0);
        check.refused("seed -1", Check.ARGUMENT, () -> club.draw(-1, 1));
        check.refused("seed 7875", Check.ARGUMENT, () -> club.draw(7875, 1));
        check.refused("gap 0", Check.ARGUMENT, () -> club.draw(0, 0));
        check.refused("gap 11", Check.ARGUMENT, () -> club.draw(0, 11));
        check.due("nothing was drawn", club.startOf(0), -1);
        check.due("draw", club.draw(0, 1), 0);
        check.refused("draw again", Check.STATE, () -> club.draw(0, 1));
        check.refused("gap comes ahead of the second draw", Check.ARGUMENT, () -> club.draw(0, 0));
    }

    private static void startOf() {
        Spurline club = withCourses();
        check.refused("startOf without runners", Check.INDEX, () -> club.startOf(0));
        club.enter(0, 0);
        club.enter(0, 1);
        check.due("startOf ahead of the draw", club.startOf(1), Spurline.NONE);
        check.refused("startOf -1", Check.INDEX, () -> club.startOf(-1));
        check.refused("startOf 2", Check.INDEX, () -> club.startOf(2));
        club.draw(0, 1);
        check.areStarts("the draw", club, 1, 0);
        check.refused("startOf 2 after the draw", Check.INDEX, () -> club.startOf(2));
    }
}
