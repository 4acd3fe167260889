/** The edges that promises 10, 11 and 26 to 30 name: each check is told by its promise's number. */
final class RaceEdgesTest {
    private static final Check check = new Check();
    private static final int CONTROLS = 7;
    private static final int RUNNERS = 4;

    public static void main(String[] args) {
        Unchanged ready = new Unchanged(check, RaceEdgesTest::entered);
        Unchanged race = new Unchanged(check, RaceEdgesTest::underWay);
        Unchanged twenty = new Unchanged(check, RaceEdgesTest::twentyPunches);
        punchMinutes();
        punchesThatCount();
        twentyOfEach();
        punchRefused(ready, race, twenty);
        fail();
        failRefused(ready, race);
        states();
        statesByTheLastPunch();
        statesOfNeighbours();
        statesAtControlNought();
        splits();
        splitsOfVoidLegs();
        legsBeyond(ready, race);
        totals();
        ranks();
        ranksOfAFullField();
        lostOfNone();
        lostNothing();
        lostMost();
        lastOfAFullField();
        runnersBeyond(ready, RUNNERS - 1);
        runnersBeyond(race, RUNNERS - 1);
        runnersBeyond(new Unchanged(check, RaceEdgesTest::fullField), 23);
        check.end("RaceEdgesTest");
    }

    /** The course of class 0 has four controls, that of class 4 has six, that of class 2 one; 6 is on none. */
    private static Spurline withCourses() {
        Spurline club = new Spurline(7, 2);
        for (int control = 0; control < CONTROLS; control++) {
            club.control(control, 0);
        }
        Calls.visitAll(club, 0, 0, 1, 2, 3);
        Calls.visitAll(club, 4, 4, 1, 2, 3, 0, 5);
        Calls.visitAll(club, 2, 3);
        return club;
    }

    private static Spurline entered() {
        Spurline club = withCourses();
        for (int klass : new int[] {0, 0, 4, 0}) {
            club.enter(klass, 0);
        }
        return club;
    }

    /** The runners 1, 0 and 3 of class 0 start at 0, 10 and 20, and 2 of class 4 at 0. */
    private static Spurline drawn() {
        Spurline club = entered();
        club.draw(0, 10);
        return club;
    }

    private static Spurline underWay() {
        Spurline club = drawn();
        Calls.punchAll(club, 1, 1, 5, 2, 9, 3, 20);
        Calls.punchAll(club, 0, 1, 15);
        Calls.punchAll(club, 3, 3, 40);
        return club;
    }

    private static Spurline twentyPunches() {
        Spurline club = drawn();
        for (int punch = 0; punch < 20; punch++) {
            club.punch(0, 6, 30);
        }
        return club;
    }

    private static void punchMinutes() {
        check.about(10);
        Spurline club = drawn();
        check.due("the least minute, which is the start", club.punch(1, 1, 0), 1);
        check.due("the least minute, with the punch before", club.punch(1, 2, 0), 2);
        check.due("the greatest minute", club.punch(1, 5, 9999), 2);
        check.due("the greatest minute again", club.punch(1, 3, 9999), 3);
        check.due("a later start", club.punch(0, 1, 10), 1);
        check.due("one after the start", club.punch(3, 1, 21), 1);
        check.due("with the punch before, which counted", club.punch(3, 6, 21), 1);
        check.due("with the punch before, which did not count", club.punch(3, 2, 21), 2);
    }

    private static void punchesThatCount() {
        check.about(10);
        Spurline club = drawn();
        check.due("the start does not count", club.punch(2, 4, 0), 0);
        int[] behindTheStart = {1, 2, 3, 0, 5};
        for (int index = 0; index < 5; index++) {
            check.due("one that comes next", club.punch(2, behindTheStart[index], index), index + 1);
            check.due("the same again", club.punch(2, behindTheStart[index], index), index + 1);
        }
        check.due("the first again", club.punch(2, 1, 9), 5);
        check.due("of a runner who has no punches yet", club.punch(0, 2, 10), 0);
    }

    private static void twentyOfEach() {
        check.about(10);
        Spurline club = drawn();
        for (int punch = 1; punch <= 20; punch++) {
            check.due("punch " + punch + " of runner 0", club.punch(0, punch == 20 ? 1 : 6, 50), punch == 20 ? 1 : 0);
        }
        for (int punch = 1; punch <= 20; punch++) {
            check.due("punch " + punch + " of runner 1", club.punch(1, punch == 1 ? 1 : 6, 0), 1);
        }
        check.refused("the 21st of runner 0", Check.STATE, () -> club.punch(0, 2, 50));
        check.refused("the 21st of runner 1", Check.STATE, () -> club.punch(1, 2, 0));
        check.due("the first of runner 2", club.punch(2, 1, 0), 1);
        check.due("the twentieth has its minute", club.split(0, 0), 40);
        check.due("and the first of the other one", club.split(1, 0), 0);
    }

    private static void punchRefused(Unchanged ready, Unchanged race, Unchanged twenty) {
        check.about(10);
        race.numbersBeyond("runner", 0, RUNNERS - 1, Check.INDEX, (club, runner) -> club.punch(runner, 2, 100));
        race.refused("runner 24", Check.INDEX, club -> club.punch(24, 2, 100));
        race.numbersBeyond("control", 0, CONTROLS - 1, Check.INDEX, (club, control) -> club.punch(0, control, 100));
        race.refused("control 12", Check.INDEX, club -> club.punch(0, 12, 100));
        race.numbersBeyond("minute", 0, 9999, Check.ARGUMENT, (club, minute) -> club.punch(2, 1, minute));
        race.numbersBeyond("no runner ahead of the minute", 0, RUNNERS - 1, Check.INDEX,
                (club, runner) -> club.punch(runner, 2, -1));
        race.numbersBeyond("no control ahead of the minute", 0, CONTROLS - 1, Check.INDEX,
                (club, control) -> club.punch(0, control, 10000));
        race.refused("one ahead of the punch before", Check.ARGUMENT, club -> club.punch(0, 2, 14));
        race.refused("at the start, ahead of the punch before", Check.ARGUMENT, club -> club.punch(0, 2, 10));
        race.refused("ahead of a punch that did not count", Check.ARGUMENT, club -> club.punch(3, 1, 39));
        ready.refused("starts were not drawn", Check.STATE, club -> club.punch(0, 1, 100));
        ready.numbersBeyond("starts not drawn ahead of the minute", 0, 9999, Check.STATE,
                (club, minute) -> club.punch(0, 1, minute));
        ready.numbersBeyond("no runner ahead of the draw", 0, RUNNERS - 1, Check.INDEX,
                (club, runner) -> club.punch(runner, 1, -1));
        ready.numbersBeyond("no control ahead of the draw", 0, CONTROLS - 1, Check.INDEX,
                (club, control) -> club.punch(0, control, -1));
        twenty.refused("20 punches", Check.STATE, club -> club.punch(0, 1, 30));
        twenty.refused("20 punches ahead of the punch before", Check.STATE, club -> club.punch(0, 1, 29));
        twenty.numbersBeyond("20 punches ahead of the minute", 0, 9999, Check.STATE,
                (club, minute) -> club.punch(0, 1, minute));
        twenty.numbersBeyond("no control ahead of 20 punches", 0, CONTROLS - 1, Check.INDEX,
                (club, control) -> club.punch(0, control, 30));
        twenty.refused("one ahead of the start", Check.ARGUMENT, club -> club.punch(3, 1, 19));
    }

    private static void fail() {
        check.about(11);
        Spurline club = new Spurline(12, 2);
        for (int control = 0; control < 12; control++) {
            club.control(control, 0);
        }
        for (int control = 0; control < 12; control++) {
            check.isFalse("had not, has not: " + control, club.fail(control, false));
            check.isFalse("had not, has: " + control, club.fail(control, true));
            check.isTrue("had, has: " + control, club.fail(control, true));
            check.isTrue("had, has not: " + control, club.fail(control, false));
        }
        Calls.visitAll(club, 4, 0, 1, 2, 3, 4, 11);
        for (int between = 1; between < 5; between++) {
            check.isFalse("between start and finish: " + between, club.fail(between, true));
        }
        check.refused("the start", Check.STATE, () -> club.fail(0, true) ? 1 : 0);
        check.refused("the finish", Check.STATE, () -> club.fail(11, true) ? 1 : 0);
        club.visit(0, 4);
        check.refused("of another course, the start has failed", Check.STATE, () -> club.fail(4, false) ? 1 : 0);
        club.visit(0, 3);
        check.refused("of another course, the finish has failed", Check.STATE, () -> club.fail(3, false) ? 1 : 0);
        club.visit(0, 5);
        check.isTrue("the finish no more", club.fail(3, true));
    }

    private static void failRefused(Unchanged ready, Unchanged race) {
        check.about(11);
        for (Unchanged clubs : new Unchanged[] {ready, race}) {
            clubs.numbersBeyond("control", 0, CONTROLS - 1, Check.INDEX,
                    (club, control) -> club.fail(control, true) ? 1 : 0);
            clubs.refused("control 12", Check.INDEX, club -> club.fail(12, false) ? 1 : 0);
            // Start and finish of class 0, start and finish of class 4; 3 is the only one of class 2 as well.
            for (int control : new int[] {0, 3, 4, 5}) {
                clubs.refused("fails, " + control, Check.STATE, club -> club.fail(control, true) ? 1 : 0);
                clubs.refused("does not, " + control, Check.STATE, club -> club.fail(control, false) ? 1 : 0);
            }
        }
        Spurline club = new Spurline(7, 2);
        club.control(0, 0);
        club.visit(2, 0);
        check.refused("the only one of a course", Check.STATE, () -> club.fail(0, true) ? 1 : 0);
    }

    private static void states() {
        check.about(26);
        Spurline club = entered();
        check.due("ahead of the draw", club.stateOf(0), Spurline.RUNNING);
        club.draw(0, 10);
        check.due("no punches", club.stateOf(0), Spurline.RUNNING);
        Calls.punchAll(club, 0, 1, 10, 2, 10);
        check.due("all but the finish", club.stateOf(0), Spurline.RUNNING);
        Calls.punchAll(club, 0, 3, 10);
        check.due("all", club.stateOf(0), Spurline.RANKED);
        Calls.punchAll(club, 3, 3, 20);
        check.due("the finish alone", club.stateOf(3), Spurline.WRONG);
        Calls.punchAll(club, 3, 1, 20, 2, 20);
        check.due("all but the finish, behind it", club.stateOf(3), Spurline.WRONG);
        Calls.punchAll(club, 3, 3, 20);
        check.due("the finish once more", club.stateOf(3), Spurline.RANKED);
        Calls.punchAll(club, 2, 3, 0);
        check.due("the finish of another class", club.stateOf(2), Spurline.RUNNING);
        Calls.punchAll(club, 1, 0, 0);
        check.due("the start", club.stateOf(1), Spurline.RUNNING);
        club.fail(1, true);
        club.fail(2, true);
        check.due("the finish alone is left, and not there", club.stateOf(1), Spurline.RUNNING);
        check.due("the finish alone is left, and there", club.stateOf(3), Spurline.RANKED);
    }

    private static void statesByTheLastPunch() {
        check.about(26);
        Spurline club = drawn();
        for (int punch = 0; punch < 17; punch++) {
            club.punch(0, 6, 10);
            club.punch(1, 6, 0);
        }
        Calls.punchAll(club, 0, 1, 10, 2, 10, 3, 11);
        check.due("the twentieth is the finish", club.stateOf(0), Spurline.RANKED);
        Calls.punchAll(club, 1, 1, 0, 6, 0, 3, 0);
        check.due("the twentieth is the finish, and one lacks", club.stateOf(1), Spurline.WRONG);
        Spurline other = drawn();
        for (int control : new int[] {1, 2, 3, 0}) {
            other.punch(2, control, 7);
        }
        check.due("all of six but the finish", other.stateOf(2), Spurline.RUNNING);
        other.punch(2, 5, 7);
        check.due("all of six", other.stateOf(2), Spurline.RANKED);
    }

    private static void statesOfNeighbours() {
        check.about(26);
        Spurline club = drawn();
        for (int punch = 0; punch < 20; punch++) {
            club.punch(0, punch == 19 ? 3 : 6, 10);
            club.punch(3, 6, 20);
        }
        check.due("the twentieth is the finish", club.stateOf(0), Spurline.WRONG);
        check.due("the next runner has no punches", club.stateOf(1), Spurline.RUNNING);
        club.punch(1, 6, 0);
        check.due("the next runner has one elsewhere", club.stateOf(1), Spurline.RUNNING);
        check.due("20 elsewhere", club.stateOf(3), Spurline.RUNNING);
        Spurline other = drawn();
        for (int punch = 0; punch < 20; punch++) {
            other.punch(0, 6, 10);
        }
        other.punch(1, 3, 0);
        check.due("the next runner begins with the finish", other.stateOf(1), Spurline.WRONG);
        check.due("20 elsewhere, ahead of it", other.stateOf(0), Spurline.RUNNING);
    }

    private static void statesAtControlNought() {
        check.about(26);
        Spurline club = withCourses();
        Calls.visitAll(club, 1, 6, 5, 0);
        club.enter(1, 0);
        check.due("the finish is control 0, ahead of the draw", club.stateOf(0), Spurline.RUNNING);
        club.draw(0, 1);
        check.due("the finish is control 0, no punches", club.stateOf(0), Spurline.RUNNING);
        club.punch(0, 5, 4);
        check.due("the finish is control 0, not there", club.stateOf(0), Spurline.RUNNING);
        club.punch(0, 0, 4);
        check.due("the finish is control 0, there", club.stateOf(0), Spurline.RANKED);
    }

    private static void splits() {
        check.about(27);
        Spurline club = entered();
        check.hasSplits("starts were not drawn", club, 2, -1, -1, -1, -1, -1);
        club.draw(0, 10);
        check.hasSplits("no punches", club, 2, -1, -1, -1, -1, -1);
        Calls.punchAll(club, 2, 2, 0);
        check.hasSplits("a punch that does not count", club, 2, -1, -1, -1, -1, -1);
        Calls.punchAll(club, 2, 1, 0);
        check.hasSplits("no minutes", club, 2, 0, -1, -1, -1, -1);
        Calls.punchAll(club, 2, 2, 9999);
        check.hasSplits("all minutes", club, 2, 0, 9999, -1, -1, -1);
        Calls.punchAll(club, 2, 5, 9999);
        check.hasSplits("the finish has not counted", club, 2, 0, 9999, -1, -1, -1);
        Calls.punchAll(club, 2, 3, 9999, 0, 9999, 5, 9999);
        check.hasSplits("all", club, 2, 0, 9999, 0, 0, 0);
        Calls.punchAll(club, 3, 1, 20);
        check.hasSplits("at the start", club, 3, 0, -1, -1);
    }

    private static void splitsOfVoidLegs() {
        check.about(27);
        Spurline club = drawn();
        Calls.punchAll(club, 2, 1, 1, 2, 3, 3, 7);
        club.fail(1, true);
        check.hasSplits("the first leg and the second one are void", club, 2, -1, -1, 4, -1, -1);
        club.fail(2, true);
        check.hasSplits("three are void", club, 2, -1, -1, -1, -1, -1);
        club.fail(1, false);
        check.hasSplits("the first one is not", club, 2, 1, -1, -1, -1, -1);
        check.hasSplits("without punches", club, 0, -1, -1, -1);
        club.fail(2, false);
        check.hasSplits("none is void", club, 2, 1, 2, 4, -1, -1);
    }

    private static void legsBeyond(Unchanged ready, Unchanged race) {
        for (Unchanged clubs : new Unchanged[] {ready, race}) {
            check.about(27);
            clubs.numbersBeyond("leg of three", 0, 2, Check.INDEX, (club, leg) -> club.split(1, leg));
            clubs.numbersBeyond("leg of five", 0, 4, Check.INDEX, (club, leg) -> club.split(2, leg));
            clubs.numbersBeyond("leg of the last runner", 0, 2, Check.INDEX, (club, leg) -> club.split(3, leg));
            clubs.refused("leg 6", Check.INDEX, club -> club.split(1, 6));
            clubs.refused("leg -6 of a later runner", Check.INDEX, club -> club.split(2, -6));
            check.about(30);
            clubs.numbersBeyond("leg of three", 0, 2, Check.INDEX, (club, leg) -> club.lost(1, leg));
            clubs.numbersBeyond("leg of five", 0, 4, Check.INDEX, (club, leg) -> club.lost(2, leg));
            clubs.numbersBeyond("leg of the last runner", 0, 2, Check.INDEX, (club, leg) -> club.lost(3, leg));
            clubs.refused("leg 6", Check.INDEX, club -> club.lost(1, 6));
            clubs.refused("leg -6 of a later runner", Check.INDEX, club -> club.lost(2, -6));
        }
    }

    private static void totals() {
        check.about(28);
        Spurline club = drawn();
        check.due("RUNNING, no punches", club.total(1), Spurline.NONE);
        Calls.punchAll(club, 1, 1, 0, 2, 0);
        check.due("RUNNING, all but the finish", club.total(1), Spurline.NONE);
        Calls.punchAll(club, 1, 3, 0);
        check.due("RANKED, no minutes", club.total(1), 0);
        Calls.punchAll(club, 0, 2, 10, 3, 12);
        check.due("WRONG", club.total(0), Spurline.NONE);
        club.fail(1, true);
        check.due("RANKED by a failure, without the void legs", club.total(0), 2);
        club.fail(2, true);
        check.due("RANKED, all legs void", club.total(0), 0);
        club.fail(1, false);
        check.due("WRONG by a control that has not failed", club.total(0), Spurline.NONE);
        club.fail(2, false);
        Calls.punchAll(club, 2, 1, 0, 2, 1, 3, 2, 0, 3, 5, 9999);
        check.due("the most minutes", club.total(2), 9999);
        Spurline before = entered();
        check.due("starts were not drawn", before.total(0), Spurline.NONE);
    }

    private static void ranks() {
        check.about(29);
        Spurline club = drawn();
        check.due("RUNNING", club.rank(0), Spurline.NONE);
        Calls.punchAll(club, 2, 1, 0, 2, 0, 3, 0, 0, 0, 5, 0);
        check.due("the only one of the class", club.rank(2), 1);
        Calls.punchAll(club, 3, 1, 20, 2, 20, 3, 25);
        check.due("one of another class is quicker", club.rank(3), 1);
        Calls.punchAll(club, 0, 3, 10);
        check.due("WRONG", club.rank(0), Spurline.NONE);
        check.due("which is no rival", club.rank(3), 1);
        Calls.punchAll(club, 1, 1, 5, 2, 5, 3, 5);
        check.due("the same total: no lesser one", club.rank(1), 1);
        check.due("the same total: both", club.rank(3), 1);
        Calls.punchAll(club, 0, 1, 10, 2, 10, 3, 16);
        check.due("two have a lesser one", club.rank(0), 3);
        club.fail(2, true);
        check.due("void legs make ranks anew: 0", club.rank(0), 1);
        check.due("void legs make ranks anew: 1", club.rank(1), 3);
        check.due("void legs make ranks anew: 3", club.rank(3), 1);
        Spurline before = entered();
        check.due("starts were not drawn", before.rank(0), Spurline.NONE);
    }

    private static Spurline fullField() {
        Spurline club = new Spurline(3, 2);
        club.control(0, 0);
        club.control(1, 0);
        Calls.visitAll(club, 3, 0, 1);
        for (int runner = 0; runner < 24; runner++) {
            club.enter(3, runner % 3);
        }
        club.draw(7, 10);
        return club;
    }

    private static void ranksOfAFullField() {
        check.about(29);
        Spurline same = fullField();
        Spurline apart = fullField();
        for (int runner = 0; runner < 24; runner++) {
            same.punch(runner, 1, same.startOf(runner) + 3);
            apart.punch(runner, 1, apart.startOf(runner) + 24 - runner);
        }
        for (int runner = 0; runner < 24; runner++) {
            check.due("24 with one total: " + runner, same.rank(runner), 1);
            check.due("24 with totals of their own: " + runner, apart.rank(runner), 24 - runner);
        }
    }

    private static void lostOfNone() {
        check.about(30);
        Spurline club = drawn();
        check.due("RUNNING", club.lost(0, 0), Spurline.NONE);
        Calls.punchAll(club, 0, 1, 15);
        check.due("RUNNING, a leg with a split", club.lost(0, 0), Spurline.NONE);
        Calls.punchAll(club, 0, 3, 20);
        check.due("WRONG, a leg with a split", club.lost(0, 0), Spurline.NONE);
        club.fail(2, true);
        check.due("RANKED", club.lost(0, 0), 0);
        check.due("a void leg that ends at the failed control", club.lost(0, 1), Spurline.NONE);
        check.due("a void leg that begins at it", club.lost(0, 2), Spurline.NONE);
        check.due("a void leg of one who is RUNNING", club.lost(1, 1), Spurline.NONE);
        Spurline before = entered();
        check.due("starts were not drawn", before.lost(0, 0), Spurline.NONE);
    }

    private static void lostNothing() {
        check.about(30);
        Spurline club = drawn();
        Calls.punchAll(club, 1, 1, 10, 2, 20, 3, 30);
        check.due("the best one of all", club.lost(1, 0), 0);
        Calls.punchAll(club, 0, 1, 30, 2, 50, 3, 70);
        // The best splits are 10 each: pace 60000 / 30 = 2000.
        check.due("just the best one times the pace", club.lost(0, 1), 0);
        Calls.punchAll(club, 3, 1, 40, 2, 59, 3, 80);
        // Splits 20, 19, 21: the pace is 2000 as well.
        check.due("one below", club.lost(3, 1), 0);
        check.due("one above", club.lost(3, 2), 1);
        Calls.punchAll(club, 2, 1, 2, 2, 5, 3, 10, 0, 20, 5, 20);
        // Class 4 has another first leg; the legs 1 to 2 and 2 to 3 it has in common: 3 and 5, with 10 together 18.
        check.due("pace 60000 / 18 = 3333, of the best 3 9", club.lost(0, 1), 20 - 9);
        check.due("of the best 5 16", club.lost(0, 2), 20 - 16);
        check.due("of the best 10 33", club.lost(0, 0), 0);
        check.due("a last leg of no minutes", club.lost(2, 4), 0);
    }

    private static void lostMost() {
        check.about(30);
        Spurline club = drawn();
        Calls.punchAll(club, 1, 1, 0, 2, 0, 3, 0);
        check.due("no minutes at all: pace 1000", club.lost(1, 0), 0);
        Calls.punchAll(club, 2, 1, 0, 2, 9999, 3, 9999, 0, 9999, 5, 9999);
        check.due("all minutes on a leg that was run in none: pace 1000", club.lost(2, 1), 9999);
        check.due("none on the next", club.lost(2, 2), 0);
        Calls.punchAll(club, 0, 1, 11, 2, 11, 3, 11);
        check.due("1 where the best is 0", club.lost(0, 0), 1);
        Spurline long0 = drawn();
        Calls.punchAll(long0, 2, 1, 9999, 2, 9999, 3, 9999, 0, 9999, 5, 9999);
        check.due("the most minutes, alone: pace 1000", long0.lost(2, 0), 0);
        Spurline quick = drawn();
        Calls.punchAll(quick, 1, 1, 0, 2, 0, 3, 1);
        Calls.punchAll(quick, 0, 1, 10, 2, 10, 3, 9999);
        // The best splits are 0, 0 and 1: the greatest pace of all but one, 1000 times 9989.
        check.due("the greatest pace", quick.lost(0, 2), 0);
    }

    private static void lastOfAFullField() {
        check.about("promises 26 to 30");
        Spurline club = fullField();
        club.punch(23, 1, 500);
        check.due("the last of 24 is RANKED", club.stateOf(23), Spurline.RANKED);
        check.due("the split of the last of 24", club.split(23, 0), 500 - club.startOf(23));
        check.due("the total of the last of 24", club.total(23), 500 - club.startOf(23));
        check.due("the rank of the last of 24", club.rank(23), 1);
        check.due("what the last of 24 lost", club.lost(23, 0), 0);
    }

    private static void runnersBeyond(Unchanged clubs, int last) {
        check.about(26);
        clubs.numbersBeyond("runner", 0, last, Check.INDEX, (club, runner) -> club.stateOf(runner));
        check.about(27);
        clubs.numbersBeyond("runner", 0, last, Check.INDEX, (club, runner) -> club.split(runner, 0));
        check.about(28);
        clubs.numbersBeyond("runner", 0, last, Check.INDEX, (club, runner) -> club.total(runner));
        check.about(29);
        clubs.numbersBeyond("runner", 0, last, Check.INDEX, (club, runner) -> club.rank(runner));
        check.about(30);
        clubs.numbersBeyond("runner", 0, last, Check.INDEX, (club, runner) -> club.lost(runner, 0));
    }
}
