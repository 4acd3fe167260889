/** The edges that the sections "What it is" and "Terms" of the document name: each check is told by its place there. */
final class TermsEdgesTest {
    private static final Check check = new Check();

    public static void main(String[] args) {
        fiveHundredAndTwelveCalls();
        questionsChangeNothing();
        highAtTheLevel();
        saddlesOfTops();
        saddlesOfHollows();
        ringsNeedTwoSquares();
        stepsByGround();
        stepsByClimb();
        forbiddenGroundCostsAsAPath();
        atMostSixTwelveAndTwentyFour();
        punchesOfFailedControls();
        allControlsFailed();
        bestSplitsOfTheRanked();
        bestSplitsOneWay();
        divisionsRoundedDown();
        check.end("TermsEdgesTest");
    }

    /** Four controls in a row and one below; the classes 0 and 1 have the courses 0 1 2 3 and 4 1 2 3. */
    private static Spurline race(int... klasses) {
        Spurline club = new Spurline(4, 3);
        for (int control = 0; control < 4; control++) {
            club.control(control, 0);
        }
        club.control(0, 1);
        Calls.visitAll(club, 0, 0, 1, 2, 3);
        Calls.visitAll(club, 1, 4, 1, 2, 3);
        Calls.visitAll(club, 2, 3, 2, 1, 0);
        for (int klass : klasses) {
            club.enter(klass, 0);
        }
        club.draw(0, 1);
        return club;
    }

    private static void fiveHundredAndTwelveCalls() {
        check.about("What it is: at most 512 calls");
        Spurline told = allTwentyPunchesOfAll();
        int start = told.startOf(5);
        check.due("call 511", told.total(5), 100 - start);
        check.due("call 512", told.split(5, 0), 100 - start);
        Spurline again = allTwentyPunchesOfAll();
        check.due("call 510", again.runners(), 24);
        check.refused("call 511", Check.STATE, () -> again.punch(23, 1, 100));
        check.due("call 512", again.stateOf(23), Spurline.RANKED);
        Spurline map = new Spurline(12, 12);
        for (int call = 1; call <= 512; call++) {
            int cell = call % 144;
            int before = call > 144 ? (call - 144) % 256 : 0;
            check.due("call " + call, map.setHeight(cell % 12, cell / 12, call % 256), before);
        }
    }

    /** As many punches as can be told, in 509 calls. */
    private static Spurline allTwentyPunchesOfAll() {
        Spurline club = new Spurline(2, 2);
        club.control(0, 0);
        club.control(1, 1);
        club.visit(1, 0);
        club.visit(1, 1);
        for (int runner = 0; runner < 24; runner++) {
            club.enter(1, 3);
        }
        club.draw(11, 1);
        for (int punch = 1; punch <= 20; punch++) {
            for (int runner = 0; runner < 24; runner++) {
                club.punch(runner, punch == 20 ? 1 : 0, 100);
            }
        }
        return club;
    }

    private static Spurline underWay() {
        Spurline club = race(0, 0, 1, 2);
        club.hill(1, 1, 40, 9);
        club.setGround(2, 1, 3, 1, 4);
        club.fail(2, true);
        club.fail(2, false);
        Calls.punchAll(club, 1, 1, 4, 2, 9, 3, 11);
        Calls.punchAll(club, 2, 1, 5, 2, 7);
        return club;
    }

    private static void questionsChangeNothing() {
        check.about("Terms: what is asked changes nothing");
        Unchanged clubs = new Unchanged(check, TermsEdgesTest::underWay);
        clubs.asked("cell", 400, club -> club.cell(1, 1));
        clubs.asked("lines", 1, club -> club.lines(40));
        clubs.asked("rings", 1, club -> club.rings(40));
        clubs.asked("longest", 4, club -> club.longest(40));
        clubs.asked("cost", 10, club -> club.cost(1, 2));
        clubs.asked("costByCells", 46, club -> club.costByCells(3, 2));
        clubs.asked("climb", 9, club -> club.climb(3, 2));
        clubs.asked("tempts", 0, club -> club.tempts(3, 2) ? 1 : 0);
        clubs.asked("courseAt", 2, club -> club.courseAt(0, 2));
        clubs.asked("courseClimb", 0, club -> club.courseClimb(0));
        clubs.asked("courseCost", 30, club -> club.courseCost(0));
        clubs.asked("spread", 9, Spurline::spread);
        clubs.asked("runners", 4, Spurline::runners);
        clubs.asked("startOf", 1, club -> club.startOf(0));
        clubs.asked("stateOf", Spurline.RANKED, club -> club.stateOf(1));
        clubs.asked("split", 5, club -> club.split(1, 1));
        clubs.asked("total", 11, club -> club.total(1));
        clubs.asked("rank", 1, club -> club.rank(1));
        clubs.asked("lost", 0, club -> club.lost(1, 1));
    }

    private static void isLines(String what, Spurline club, int level, int lines, int rings, int longest) {
        check.due(what + ": lines(" + level + ")", club.lines(level), lines);
        check.due(what + ": rings(" + level + ")", club.rings(level), rings);
        check.due(what + ": longest(" + level + ")", club.longest(level), longest);
    }

    private static void highAtTheLevel() {
        check.about("Terms: a cell is high, if its height is at least the level");
        Spurline club = new Spurline(4, 4);
        club.setHeight(1, 1, 7);
        club.setHeight(2, 1, 8);
        isLines("both are high", club, 7, 1, 1, 6);
        isLines("one is high", club, 8, 1, 1, 4);
        isLines("none is high", club, 9, 0, 0, 0);
    }

    /** A top in the middle and one in a corner, all else 0: four gaps in one square. */
    private static void saddlesOfTops() {
        check.about("Terms: four gaps, the high cells across");
        int[][] corners = {{0, 0}, {2, 0}, {0, 2}, {2, 2}};
        for (int[] corner : corners) {
            Spurline club = new Spurline(3, 3);
            club.setHeight(1, 1, 10);
            club.setHeight(corner[0], corner[1], 10);
            isLines("just 4 times the level: those of low cells", club, 5, 1, 0, 6);
            club.setHeight(1, 1, 9);
            isLines("one less: those of high cells", club, 5, 2, 1, 4);
            club.setHeight(1, 1, 11);
            isLines("one more: those of low cells", club, 5, 1, 0, 6);
            club.setHeight(1, 1, 255);
            club.setHeight(corner[0], corner[1], 255);
            isLines("twice 255, level 127: those of low cells", club, 127, 1, 0, 6);
            isLines("twice 255, level 128: those of high cells", club, 128, 2, 1, 4);
        }
    }

    /** A hollow in the middle and one in a corner, all else 10. */
    private static void saddlesOfHollows() {
        check.about("Terms: four gaps, the low cells across");
        int[][] corners = {{0, 0}, {2, 0}, {0, 2}, {2, 2}};
        for (int[] corner : corners) {
            Spurline club = new Spurline(3, 3);
            for (int cell = 0; cell < 9; cell++) {
                club.setHeight(cell % 3, cell / 3, 10);
            }
            club.setHeight(1, 1, 0);
            club.setHeight(corner[0], corner[1], 0);
            isLines("just 4 times the level: those of low cells", club, 5, 2, 1, 4);
            club.setHeight(corner[0], 1, 9);
            isLines("one less: those of high cells", club, 5, 1, 0, 6);
            club.setHeight(corner[0], 1, 11);
            isLines("one more: those of low cells", club, 5, 2, 1, 4);
        }
    }

    private static void ringsNeedTwoSquares() {
        check.about("Terms: a ring's gaps are of two squares each");
        for (int place = 0; place < 5; place++) {
            Spurline wide = new Spurline(5, 2);
            wide.setHeight(place, 0, 9);
            wide.setHeight(place, 1, 9);
            isLines("across a map of two rows", wide, 9, place % 4 == 0 ? 1 : 2, 0, 2);
            Spurline high = new Spurline(2, 5);
            high.setHeight(1, place, 9);
            isLines("in a map of two columns", high, 9, 1, 0, place % 4 == 0 ? 2 : 3);
            Spurline square = new Spurline(5, 5);
            square.setHeight(place, place, 9);
            boolean isCorner = place % 4 == 0;
            isLines("on the diagonal", square, 9, 1, isCorner ? 0 : 1, isCorner ? 2 : 4);
        }
    }

    private static void stepsByGround() {
        check.about("Terms: 10, 12, 20 or 40 by the ground to which one goes");
        int[] costs = {10, 12, 20, 40};
        for (int ground = 0; ground < 4; ground++) {
            Spurline club = new Spurline(2, 2);
            club.control(0, 0);
            club.control(1, 1);
            club.setGround(0, 0, 1, 1, ground);
            check.due("two steps on ground " + ground, club.cost(0, 1), 2 * costs[ground]);
            club.setGround(0, 0, 0, 0, 4);
            check.due("away from forbidden ground on ground " + ground, club.cost(0, 1), 2 * costs[ground]);
            check.due("not to forbidden ground", club.cost(1, 0), Spurline.NONE);
        }
    }

    private static void stepsByClimb() {
        check.about("Terms: 4 times the climb, 0 if it is not higher");
        int[][] heights = {{0, 0, 0}, {0, 1, 1}, {1, 0, 0}, {0, 255, 255}, {255, 0, 0}, {254, 255, 1}, {255, 254, 0}};
        for (int[] pair : heights) {
            Spurline club = new Spurline(2, 2);
            club.control(0, 0);
            club.control(1, 0);
            club.setHeight(0, 0, pair[0]);
            club.setHeight(1, 0, pair[1]);
            club.setGround(0, 1, 1, 1, 4);
            check.due("climb from " + pair[0] + " to " + pair[1], club.climb(0, 1), pair[2]);
            check.due("cost from " + pair[0] + " to " + pair[1], club.cost(0, 1), 10 + 4 * pair[2]);
        }
    }

    private static void forbiddenGroundCostsAsAPath() {
        check.about("Terms: forbidden ground costs as a path for the leg that tempts");
        int[] costs = {10, 12, 20, 40};
        for (int ground = 0; ground < 4; ground++) {
            int cost = costs[ground];
            Spurline club = new Spurline(3, 2);
            club.control(0, 0);
            club.control(2, 0);
            club.setGround(0, 0, 2, 1, ground);
            club.setGround(1, 0, 1, 0, 4);
            check.due("around on ground " + ground, club.cost(0, 1), 4 * cost);
            // Over it one pays 10 and 4 times the height, and then the cost once.
            int most = (3 * cost - 11) / 4;
            club.setHeight(1, 0, most);
            check.isTrue("over it for just less, ground " + ground, club.tempts(0, 1));
            club.setHeight(1, 0, most + 1);
            check.isFalse("over it for as much or just more, ground " + ground, club.tempts(0, 1));
            check.due("around as before, ground " + ground, club.cost(0, 1), 4 * cost);
        }
    }

    private static void atMostSixTwelveAndTwentyFour() {
        check.about("Terms: at most 12 controls, 6 of a course, 24 runners, 20 punches of each");
        Spurline club = new Spurline(12, 2);
        for (int control = 0; control < 12; control++) {
            check.due("control", club.control(control, 1), control);
        }
        for (int index = 0; index < 6; index++) {
            check.due("of a course", club.visit(1, 2 * index), index + 1);
        }
        for (int runner = 0; runner < 24; runner++) {
            check.due("runner", club.enter(1, 0), runner);
        }
        club.draw(0, 1);
        for (int punch = 0; punch < 20; punch++) {
            check.due("punch", club.punch(23, punch < 15 ? 11 : 2 * punch - 28, 99), Math.max(0, punch - 14));
        }
        check.due("all of it counts", club.stateOf(23), Spurline.RANKED);
        check.refused("a control more", Check.STATE, () -> club.control(0, 0));
        check.refused("one of a course more", Check.STATE, () -> club.visit(1, 11));
        check.refused("a runner more", Check.STATE, () -> club.enter(1, 0));
        check.refused("a punch more", Check.STATE, () -> club.punch(23, 10, 99));
    }

    private static void punchesOfFailedControls() {
        check.about("Terms: punches are held against the controls that have not failed");
        Spurline club = race(0);
        club.fail(1, true);
        check.due("of a failed control", club.punch(0, 1, 1), 0);
        check.due("of the next one", club.punch(0, 2, 2), 1);
        check.due("of the finish", club.punch(0, 3, 3), 2);
        check.due("all have counted", club.stateOf(0), Spurline.RANKED);
        club.fail(1, false);
        check.due("none but that one lacks, which is there", club.total(0), 3);
        club.fail(2, true);
        check.due("another one has failed", club.total(0), 1);
        check.due("the leg to it is void", club.split(0, 1), Spurline.NONE);
        check.due("so is the leg from it", club.split(0, 2), Spurline.NONE);
    }

    private static void allControlsFailed() {
        check.about("Terms: when all of these have counted");
        Spurline club = new Spurline(3, 2);
        for (int control = 0; control < 3; control++) {
            club.control(control, 0);
            club.fail(control, true);
        }
        Calls.visitAll(club, 0, 0, 1, 2);
        club.enter(0, 0);
        check.due("there is none that has not", club.stateOf(0), Spurline.RANKED);
        check.due("the sum of no splits", club.total(0), 0);
        check.due("no lesser total", club.rank(0), 1);
        check.due("void", club.split(0, 0), Spurline.NONE);
        check.due("void, nothing lost", club.lost(0, 1), Spurline.NONE);
        club.draw(0, 1);
        check.due("after the draw", club.stateOf(0), Spurline.RANKED);
        check.due("a punch of the finish does not count", club.punch(0, 2, 5), 0);
        check.due("nor is it wrong", club.stateOf(0), Spurline.RANKED);
    }

    private static void bestSplitsOfTheRanked() {
        check.about("Terms: the best split of all RANKED runners, of all classes");
        Spurline club = race(0, 1, 1);
        Calls.punchAll(club, 0, 1, 10, 2, 20, 3, 30);
        Calls.punchAll(club, 1, 1, 9, 2, 10, 3, 40);
        // Of class 1: the best splits of class 0 become 10, 1 and 10, and the pace 30000 / 21 = 1428.
        check.due("of another class", club.lost(0, 1), 10 - 1);
        Calls.punchAll(club, 2, 1, 20, 2, 20);
        check.due("of one who is RUNNING", club.lost(0, 1), 10 - 1);
        Calls.punchAll(club, 2, 4, 21);
        check.due("of one who is still RUNNING", club.lost(0, 1), 10 - 1);
        Calls.punchAll(club, 2, 3, 60);
        // The best splits are 10, 0 and 10: a leg that was run in no time.
        check.due("of one who came to the finish", club.lost(0, 1), 10);
        Spurline wrong = race(0, 1);
        Calls.punchAll(wrong, 0, 1, 10, 2, 20, 3, 30);
        Calls.punchAll(wrong, 1, 3, 5, 1, 9, 2, 10);
        check.due("of one who is WRONG", wrong.lost(0, 1), 0);
        Calls.punchAll(wrong, 1, 3, 90);
        check.due("of one who is so no more", wrong.lost(0, 1), 10 - 1);
    }

    private static void bestSplitsOneWay() {
        check.about("Terms: of legs from the one to the other");
        Spurline club = race(0, 2);
        Calls.punchAll(club, 0, 1, 10, 2, 20, 3, 30);
        Calls.punchAll(club, 1, 2, 1, 1, 2, 0, 3);
        check.due("the other way is not the same", club.lost(0, 1), 0);
        check.due("nor back", club.lost(1, 1), 0);
    }

    private static void divisionsRoundedDown() {
        check.about("Terms: all divisions are rounded down");
        Spurline club = race(0, 0);
        Calls.punchAll(club, 1, 1, 3, 2, 6, 3, 9);
        Calls.punchAll(club, 0, 1, 4, 2, 7, 3, 12);
        // Of runner 0 the splits are 3, 3, 5 and the best ones 3, 3, 3: pace 11000 / 9 = 1222, and 3 times it is 3.666.
        check.due("3.666 is 3", club.lost(0, 2), 5 - 3);
        check.due("not below 0", club.lost(0, 0), 0);
    }
}
