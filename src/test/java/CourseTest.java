/** Promises 6, 7 and 20 to 23: visit, arrange, courseAt, courseClimb, courseCost, spread. */
final class CourseTest {
    private static final Check check = new Check();

    public static void main(String[] args) {
        visit();
        visitRefuses();
        courseAt();
        climbAndCost();
        courseWithoutRoute();
        spread();
        arrangeByClimb();
        arrangeByCost();
        arrangeByNumbers();
        arrangeFourBetween();
        arrangeKeepsOthersAndEnds();
        arrangeWithoutRoute();
        arrangeShortCourses();
        arrangeWithFailedControls();
        arrangeRefuses();
        check.end("CourseTest");
    }

    private static Spurline withControls(int count) {
        Spurline club = new Spurline(12, 2);
        for (int control = 0; control < count; control++) {
            club.control(control, 0);
        }
        return club;
    }

    private static void visit() {
        Spurline club = withControls(12);
        for (int index = 0; index < 6; index++) {
            check.due("visit " + index, club.visit(0, 11 - index), index + 1);
        }
        check.isCourse("six", club, 0, 11, 10, 9, 8, 7, 6);
        check.due("a control that another class has", club.visit(4, 11), 1);
        club.fail(0, true);
        check.due("a control that has failed", club.visit(4, 0), 2);
        check.isCourse("the last class", club, 4, 11, 0);
        check.isCourse("no course", club, 1);
    }

    private static void visitRefuses() {
        Spurline club = withControls(8);
        check.refused("visit class -1", Check.INDEX, () -> club.visit(-1, 0));
        check.refused("visit class 5", Check.INDEX, () -> club.visit(5, 0));
        check.refused("visit control -1", Check.INDEX, () -> club.visit(0, -1));
        check.refused("visit control 8", Check.INDEX, () -> club.visit(0, 8));
        Calls.visitAll(club, 0, 0, 1, 2, 3, 4);
        check.refused("visit the start again", Check.STATE, () -> club.visit(0, 0));
        check.refused("visit the finish again", Check.STATE, () -> club.visit(0, 4));
        club.visit(0, 5);
        check.refused("visit a seventh", Check.STATE, () -> club.visit(0, 6));
        check.refused("no control comes ahead of six", Check.INDEX, () -> club.visit(0, 8));
        Calls.visitAll(club, 1, 0, 1);
        club.enter(1, 0);
        check.due("visit after entries", club.visit(1, 2), 3);
        club.draw(0, 1);
        check.refused("visit after the draw", Check.STATE, () -> club.visit(1, 3));
        check.refused("visit in another class after the draw", Check.STATE, () -> club.visit(2, 3));
        check.refused("no class comes ahead of the draw", Check.INDEX, () -> club.visit(5, 3));
        check.isCourse("nothing changed", club, 1, 0, 1, 2);
        check.isCourse("nothing changed in 0", club, 0, 0, 1, 2, 3, 4, 5);
    }

    private static void courseAt() {
        Spurline club = withControls(3);
        Calls.visitAll(club, 2, 2, 0);
        check.due("courseAt 0", club.courseAt(2, 0), 2);
        check.due("courseAt 1", club.courseAt(2, 1), 0);
        check.refused("courseAt 2", Check.INDEX, () -> club.courseAt(2, 2));
        check.refused("courseAt -1", Check.INDEX, () -> club.courseAt(2, -1));
        check.refused("courseAt class -1", Check.INDEX, () -> club.courseAt(-1, 0));
        check.refused("courseAt class 5", Check.INDEX, () -> club.courseAt(5, 0));
        check.refused("courseAt of no course", Check.INDEX, () -> club.courseAt(3, 0));
        check.refused("courseAt far off", Check.INDEX, () -> club.courseAt(2, Integer.MAX_VALUE));
    }

    private static void measures(String what, Spurline club, int klass, int climb, int cost) {
        check.due(what + ": courseClimb", club.courseClimb(klass), climb);
        check.due(what + ": courseCost", club.courseCost(klass), cost);
    }

    private static void climbAndCost() {
        Spurline club = withControls(5);
        club.setHeight(2, 0, 7);
        club.setHeight(2, 1, 7);
        measures("no controls", club, 0, -1, -1);
        club.visit(0, 0);
        measures("one control", club, 0, -1, -1);
        club.visit(0, 4);
        measures("one leg", club, 0, 7, 40 + 28);
        club.visit(0, 1);
        measures("two legs", club, 0, 14, 40 + 28 + 30 + 28);
        club.visit(0, 2);
        measures("three legs", club, 0, 21, 40 + 28 + 30 + 28 + 10 + 28);
        club.fail(4, true);
        measures("a failed control stays on the course", club, 0, 21, 164);
        for (int klass : new int[] {-1, 5, Integer.MIN_VALUE}) {
            check.refused("courseClimb " + klass, Check.INDEX, () -> club.courseClimb(klass));
            check.refused("courseCost " + klass, Check.INDEX, () -> club.courseCost(klass));
        }
    }

    private static void courseWithoutRoute() {
        Spurline club = withControls(5);
        Calls.visitAll(club, 0, 0, 1, 2);
        Calls.visitAll(club, 1, 2, 1, 0);
        club.setGround(2, 0, 2, 0, 4);
        measures("the finish is forbidden", club, 0, -1, -1);
        measures("the start is forbidden", club, 1, 0, 20);
        Calls.visitAll(club, 2, 0, 2, 1);
        measures("one between is forbidden", club, 2, -1, -1);
        Calls.visitAll(club, 3, 2, 0, 4);
        measures("around it", club, 3, 0, 20 + 60);
        club.setGround(2, 1, 2, 1, 4);
        measures("a wall", club, 3, -1, -1);
    }

    private static void spread() {
        Spurline club = withControls(5);
        check.due("spread of no courses", club.spread(), 0);
        club.setHeight(2, 0, 7);
        club.setHeight(2, 1, 7);
        Calls.visitAll(club, 0, 0, 4);
        check.due("spread of one course", club.spread(), 0);
        Calls.visitAll(club, 4, 4, 0, 3, 1);
        check.due("spread of two", club.spread(), 14);
        club.visit(2, 0);
        check.due("one control has no climb", club.spread(), 14);
        club.visit(2, 1);
        check.due("a flat course", club.spread(), 21);
        Calls.visitAll(club, 1, 1, 0);
        check.due("two flat courses", club.spread(), 21);
        club.setGround(1, 0, 1, 0, 4);
        check.due("only the first has a route, and one away from forbidden ground", club.spread(), 7);
        club.setGround(1, 0, 1, 0, 0);
        club.setGround(0, 0, 0, 0, 4);
        check.due("courses away from 0 alone", club.spread(), 7);
        club.setGround(0, 0, 11, 1, 4);
        check.due("no course has a route", club.spread(), 0);
    }

    /** A ridge between the start and all others but one that stands on it. */
    private static Spurline ridge() {
        Spurline club = new Spurline(12, 2);
        club.setHeight(3, 0, 10);
        club.setHeight(3, 1, 10);
        club.control(0, 0);
        club.control(3, 0);
        club.control(6, 0);
        club.control(9, 0);
        Calls.visitAll(club, 0, 0, 1, 2, 3);
        return club;
    }

    private static void arrangeByClimb() {
        Spurline club = ridge();
        check.due("climb at first", club.courseClimb(0), 10);
        check.due("arrange 20", club.arrange(0, 20), 20);
        check.isCourse("arrange 20", club, 0, 0, 2, 1, 3);
        check.due("arrange 10", club.arrange(0, 10), 10);
        check.isCourse("arrange 10", club, 0, 0, 1, 2, 3);
        check.due("arrange 9999", club.arrange(0, 9999), 20);
        check.due("arrange 0", club.arrange(0, 0), 10);
        check.due("arrange 16", club.arrange(0, 16), 20);
        check.due("arrange 14", club.arrange(0, 14), 10);
        club.arrange(0, 20);
        check.due("as near from both sides: the lesser cost", club.arrange(0, 15), 10);
        check.isCourse("arrange 15", club, 0, 0, 1, 2, 3);
    }

    private static void arrangeByCost() {
        Spurline club = new Spurline(12, 2);
        int[] places = {0, 9, 3, 6, 11};
        for (int place : places) {
            club.control(place, 0);
        }
        Calls.visitAll(club, 3, 0, 1, 2, 3, 4);
        check.due("cost at first", club.courseCost(3), 90 + 60 + 30 + 50);
        check.due("arrange on flat ground", club.arrange(3, 500), 0);
        check.isCourse("the least cost", club, 3, 0, 2, 3, 1, 4);
        check.due("cost then", club.courseCost(3), 110);
        check.due("arrange again", club.arrange(3, 0), 0);
        check.isCourse("all stays", club, 3, 0, 2, 3, 1, 4);
    }

    private static void arrangeByNumbers() {
        Spurline club = new Spurline(3, 3);
        club.control(1, 0);
        club.control(0, 1);
        club.control(2, 1);
        club.control(1, 2);
        Calls.visitAll(club, 0, 0, 2, 1, 3);
        Calls.visitAll(club, 1, 3, 1, 2, 0);
        check.due("both orders cost the same", club.arrange(0, 3), 0);
        check.isCourse("the least row", club, 0, 0, 1, 2, 3);
        club.arrange(1, 3);
        check.isCourse("the least row back", club, 1, 3, 1, 2, 0);
    }

    private static void arrangeFourBetween() {
        Spurline club = new Spurline(12, 2);
        int[] places = {8, 6, 4, 2, 0, 10};
        for (int place : places) {
            club.control(place, 0);
        }
        Calls.visitAll(club, 0, 4, 0, 1, 2, 3, 5);
        club.arrange(0, 0);
        check.isCourse("four between", club, 0, 4, 3, 2, 1, 0, 5);
        check.due("their cost", club.courseCost(0), 100);
        for (int x = 0; x < 12; x++) {
            club.setHeight(x, 0, 3 * x);
            club.setHeight(x, 1, 3 * x);
        }
        check.due("the least climb", club.arrange(0, 0), 30);
        // 8 4 6 2 climbs 3 times 8 + 2 + 8; so do 8 2 6 4 and 6 2 8 4, which cost as much.
        check.due("the greatest climb", club.arrange(0, 9999), 54);
        check.isCourse("the least of several rows", club, 0, 4, 0, 2, 1, 3, 5);
        check.due("the climb of 8 6 4 2", club.arrange(0, 47), 48);
        check.isCourse("its row", club, 0, 4, 0, 1, 2, 3, 5);
    }

    private static void arrangeKeepsOthersAndEnds() {
        Spurline club = ridge();
        Calls.visitAll(club, 1, 3, 2, 1, 0);
        club.arrange(0, 20);
        check.isCourse("another class stays", club, 1, 3, 2, 1, 0);
        Spurline ends = new Spurline(12, 2);
        int[] places = {11, 6, 3, 0};
        for (int place : places) {
            ends.control(place, 0);
        }
        Calls.visitAll(ends, 0, 1, 0, 3, 2);
        ends.arrange(0, 0);
        check.isCourse("the ends stay", ends, 0, 1, 0, 3, 2);
    }

    private static void arrangeWithoutRoute() {
        Spurline club = ridge();
        club.arrange(0, 20);
        club.setGround(9, 0, 9, 0, 4);
        check.due("the finish is forbidden", club.arrange(0, 10), -1);
        check.isCourse("all stays", club, 0, 0, 2, 1, 3);
        club.setGround(9, 0, 9, 0, 0);
        club.setGround(6, 0, 6, 0, 4);
        check.due("one between is forbidden", club.arrange(0, 10), -1);
        check.isCourse("all stays still", club, 0, 0, 2, 1, 3);
        club.setGround(6, 0, 6, 0, 0);
        club.setGround(0, 0, 0, 0, 4);
        check.due("the start may be", club.arrange(0, 10), 10);
        check.isCourse("arranged", club, 0, 0, 1, 2, 3);
    }

    private static void arrangeShortCourses() {
        Spurline club = ridge();
        check.due("no controls", club.arrange(4, 0), -1);
        club.visit(4, 2);
        check.due("one control", club.arrange(4, 0), -1);
        check.isCourse("one control", club, 4, 2);
        club.visit(4, 0);
        check.due("two controls", club.arrange(4, 0), 10);
        check.isCourse("two controls", club, 4, 2, 0);
        club.visit(4, 1);
        check.due("three controls", club.arrange(4, 9999), 20);
        check.isCourse("three controls", club, 4, 2, 0, 1);
    }

    private static void arrangeWithFailedControls() {
        Spurline club = ridge();
        club.fail(1, true);
        check.due("a failed control is arranged as well", club.arrange(0, 20), 20);
        check.isCourse("with a failed control", club, 0, 0, 2, 1, 3);
    }

    private static void arrangeRefuses() {
        Spurline club = ridge();
        check.refused("arrange class -1", Check.INDEX, () -> club.arrange(-1, 0));
        check.refused("arrange class 5", Check.INDEX, () -> club.arrange(5, 0));
        check.refused("arrange climb -1", Check.ARGUMENT, () -> club.arrange(0, -1));
        check.refused("arrange climb 10000", Check.ARGUMENT, () -> club.arrange(0, 10000));
        check.refused("no class comes first", Check.INDEX, () -> club.arrange(5, -1));
        club.enter(0, 0);
        check.due("arrange after entries", club.arrange(0, 20), 20);
        club.draw(0, 1);
        check.refused("arrange after the draw", Check.STATE, () -> club.arrange(0, 10));
        check.refused("a course without controls", Check.STATE, () -> club.arrange(1, 10));
        check.refused("climb comes ahead of the draw", Check.ARGUMENT, () -> club.arrange(0, 10000));
        check.refused("class comes ahead of both", Check.INDEX, () -> club.arrange(-1, 10000));
        check.isCourse("nothing changed", club, 0, 0, 2, 1, 3);
    }
}
