/** Promises 10, 11 and 26 to 30: punch, fail, stateOf, split, total, rank, lost. */
final class RaceTest {
    private static final Check check = new Check();

    public static void main(String[] args) {
        punchCounts();
        punchRefuses();
        punchMinutes();
        punchLimit();
        fail();
        failRefuses();
        states();
        stateAtTheFinishFirst();
        failuresChangeStates();
        failedFinishAndStart();
        nothingToPunch();
        controlNoughtBehindTheStart();
        splits();
        splitsOfVoidLegs();
        totalsAndRanks();
        lostTime();
        lostOnSharedLegs();
        lostWithoutTime();
        lostByThePaceRoundedDown();
        eachAskStandsAlone();
        aFullField();
        unknownRunnersAndLegs();
        check.end("RaceTest");
    }

    /** Controls 0 to 5 in a row; the classes 0 and 1 have courses with the legs 1 to 2 and 2 to 3 in common. */
    private static Spurline withCourses() {
        Spurline club = new Spurline(6, 2);
        for (int control = 0; control < 6; control++) {
            club.control(control, 0);
        }
        int[] first = {0, 1, 2, 3};
        int[] second = {4, 1, 2, 3, 5};
        for (int control : first) {
            club.visit(0, control);
        }
        for (int control : second) {
            club.visit(1, control);
        }
        return club;
    }

    /** One runner after another, of one club: those of a class start in the order of their lots, 1, 0, 5, 3, 2, 4. */
    private static Spurline withRunners(int gap, int... klasses) {
        Spurline club = withCourses();
        for (int klass : klasses) {
            club.enter(klass, 0);
        }
        club.draw(0, gap);
        return club;
    }

    private static void punchCounts() {
        Spurline club = withRunners(1, 0);
        check.due("the start does not count", club.punch(0, 0, 0), 0);
        check.due("one too early", club.punch(0, 2, 1), 0);
        check.due("the first", club.punch(0, 1, 2), 1);
        check.due("the first again", club.punch(0, 1, 3), 1);
        check.due("one of another course", club.punch(0, 5, 3), 1);
        check.due("the next", club.punch(0, 2, 4), 2);
        check.due("the finish", club.punch(0, 3, 9), 3);
        check.due("one too many", club.punch(0, 3, 9), 3);
        check.due("and one more", club.punch(0, 1, 10), 3);
        check.hasSplits("punches that count", club, 0, 2, 2, 5);
    }

    private static void punchRefuses() {
        Spurline club = withCourses();
        check.refused("punch without runners", Check.INDEX, () -> club.punch(0, 0, 0));
        club.enter(0, 0);
        check.refused("punch ahead of the draw", Check.STATE, () -> club.punch(0, 1, 0));
        check.refused("runner comes ahead of the draw", Check.INDEX, () -> club.punch(1, 1, 0));
        check.refused("control comes ahead of the draw", Check.INDEX, () -> club.punch(0, 6, 0));
        check.refused("the draw comes ahead of the minute", Check.STATE, () -> club.punch(0, 1, -1));
        club.draw(0, 1);
        check.refused("punch runner -1", Check.INDEX, () -> club.punch(-1, 1, 0));
        check.refused("punch runner 1", Check.INDEX, () -> club.punch(1, 1, 0));
        check.refused("punch control -1", Check.INDEX, () -> club.punch(0, -1, 0));
        check.refused("punch control 6", Check.INDEX, () -> club.punch(0, 6, 0));
        check.refused("runner comes ahead of the minute", Check.INDEX, () -> club.punch(1, 1, -1));
        check.due("nothing was told", club.punch(0, 1, 0), 1);
    }

    private static void punchMinutes() {
        Spurline club = withRunners(10, 0, 0);
        check.due("start of 0", club.startOf(0), 10);
        check.refused("minute -1", Check.ARGUMENT, () -> club.punch(1, 1, -1));
        check.refused("minute 10000", Check.ARGUMENT, () -> club.punch(1, 1, 10000));
        check.refused("ahead of the start", Check.ARGUMENT, () -> club.punch(0, 1, 9));
        check.due("at the start", club.punch(0, 1, 10), 1);
        check.due("the second of the other", club.punch(1, 0, 15), 0);
        check.refused("ahead of the first of the other", Check.ARGUMENT, () -> club.punch(1, 1, 14));
        check.due("later", club.punch(0, 5, 20), 1);
        check.refused("ahead of the punch before", Check.ARGUMENT, () -> club.punch(0, 2, 19));
        check.due("with the punch before", club.punch(0, 2, 20), 2);
        check.due("the last minute", club.punch(0, 3, 9999), 3);
        check.due("total", club.total(0), 9989);
        check.hasSplits("minutes", club, 0, 0, 10, 9979);
    }

    private static void punchLimit() {
        Spurline club = withRunners(1, 0, 0);
        for (int punch = 0; punch < 19; punch++) {
            check.due("punch " + punch, club.punch(0, 0, 5), 0);
        }
        check.due("the twentieth", club.punch(0, 1, 5), 1);
        check.refused("one more", Check.STATE, () -> club.punch(0, 2, 5));
        check.refused("20 punches come ahead of the minute", Check.STATE, () -> club.punch(0, 2, -1));
        check.refused("control comes ahead of 20 punches", Check.INDEX, () -> club.punch(0, 6, 5));
        check.due("another runner has none", club.punch(1, 1, 3), 1);
        check.hasSplits("the limit", club, 0, 4, -1, -1);
        check.hasSplits("the other", club, 1, 3, -1, -1);
    }

    private static void fail() {
        Spurline club = withCourses();
        check.isFalse("fail at first", club.fail(1, true));
        check.isTrue("fail again", club.fail(1, true));
        check.isFalse("another one", club.fail(2, false));
        check.isTrue("mended", club.fail(1, false));
        check.isFalse("mended again", club.fail(1, false));
        club.enter(0, 0);
        club.draw(0, 1);
        check.isFalse("after the draw", club.fail(2, true));
        check.isTrue("had failed", club.fail(2, true));
    }

    private static void failRefuses() {
        Spurline club = withCourses();
        check.refused("fail -1", Check.INDEX, () -> club.fail(-1, true) ? 1 : 0);
        check.refused("fail 6", Check.INDEX, () -> club.fail(6, true) ? 1 : 0);
        for (int control : new int[] {0, 3, 4, 5}) {
            check.refused("fail " + control, Check.STATE, () -> club.fail(control, true) ? 1 : 0);
            check.refused("mend " + control, Check.STATE, () -> club.fail(control, false) ? 1 : 0);
        }
        check.isFalse("one between", club.fail(2, true));
        club.visit(4, 2);
        check.refused("the only one of a course", Check.STATE, () -> club.fail(2, false) ? 1 : 0);
        club.visit(4, 1);
        club.visit(4, 3);
        check.refused("the start of a course", Check.STATE, () -> club.fail(2, false) ? 1 : 0);
        check.isFalse("the finish no more", club.fail(1, true));
    }

    private static void states() {
        Spurline club = withCourses();
        club.enter(0, 0);
        check.due("ahead of the draw", club.stateOf(0), Spurline.RUNNING);
        club.draw(0, 1);
        check.due("no punches", club.stateOf(0), Spurline.RUNNING);
        Calls.punchAll(club, 0, 1, 5);
        check.due("one of three", club.stateOf(0), Spurline.RUNNING);
        Calls.punchAll(club, 0, 2, 6);
        check.due("two of three", club.stateOf(0), Spurline.RUNNING);
        Calls.punchAll(club, 0, 3, 7);
        check.due("all", club.stateOf(0), Spurline.RANKED);
        Calls.punchAll(club, 0, 0, 8, 3, 9);
        check.due("and more", club.stateOf(0), Spurline.RANKED);
        check.due("its total", club.total(0), 7);
    }

    private static void stateAtTheFinishFirst() {
        Spurline club = withRunners(1, 0);
        Calls.punchAll(club, 0, 1, 5, 3, 6);
        check.due("one left out", club.stateOf(0), Spurline.WRONG);
        Calls.punchAll(club, 0, 2, 7);
        check.due("the finish was ahead of it", club.stateOf(0), Spurline.WRONG);
        check.due("no total", club.total(0), -1);
        check.due("no rank", club.rank(0), -1);
        Calls.punchAll(club, 0, 3, 8);
        check.due("the finish again", club.stateOf(0), Spurline.RANKED);
        check.hasSplits("the finish again", club, 0, 5, 2, 1);
    }

    private static void failuresChangeStates() {
        Spurline club = withRunners(1, 0, 0);
        Calls.punchAll(club, 0, 2, 6, 3, 9);
        check.due("one left out", club.stateOf(0), Spurline.WRONG);
        club.fail(1, true);
        check.due("it failed", club.stateOf(0), Spurline.RANKED);
        check.hasSplits("it failed", club, 0, -1, -1, 3);
        check.due("punches count", club.punch(0, 1, 9), 2);
        check.due("the total", club.total(0), 3);
        club.fail(2, true);
        check.due("both failed", club.stateOf(0), Spurline.RANKED);
        check.hasSplits("both failed", club, 0, -1, -1, -1);
        check.due("no legs left", club.total(0), 0);
        check.due("a rank all the same", club.rank(0), 1);
        check.due("the other one is under way", club.stateOf(1), Spurline.RUNNING);
        check.due("and needs the finish alone", club.punch(1, 3, 4), 1);
        check.due("as good as the first", club.rank(1), 1);
        club.fail(1, false);
        check.due("one mended", club.stateOf(1), Spurline.WRONG);
        check.due("and the punch of it was too late", club.stateOf(0), Spurline.WRONG);
        check.due("it counts", club.punch(0, 5, 9), 1);
    }

    private static void failedFinishAndStart() {
        Spurline club = new Spurline(4, 2);
        for (int control = 0; control < 4; control++) {
            club.control(control, 0);
            club.fail(control, control == 0 || control == 3);
        }
        for (int control = 0; control < 4; control++) {
            club.visit(2, control);
        }
        club.enter(2, 0);
        club.draw(0, 1);
        check.due("start and finish failed", club.stateOf(0), Spurline.RUNNING);
        check.due("a punch of the failed finish", club.punch(0, 3, 1), 0);
        check.due("is one of the finish", club.stateOf(0), Spurline.WRONG);
        check.due("the first", club.punch(0, 1, 4), 1);
        check.due("the second", club.punch(0, 2, 9), 2);
        check.due("no finish is needed", club.stateOf(0), Spurline.RANKED);
        check.hasSplits("start and finish failed", club, 0, -1, 5, -1);
        check.due("the total of one leg", club.total(0), 5);
        check.due("nothing lost on it", club.lost(0, 1), 0);
        check.due("void at the start", club.lost(0, 0), -1);
        check.due("void at the finish", club.lost(0, 2), -1);
    }

    private static void nothingToPunch() {
        Spurline club = new Spurline(4, 2);
        club.control(0, 0);
        club.control(1, 0);
        club.fail(1, true);
        club.visit(0, 0);
        club.visit(0, 1);
        club.enter(0, 0);
        check.due("all of none have counted", club.stateOf(0), Spurline.RANKED);
        check.due("the sum of no splits", club.total(0), 0);
        check.due("the first of one", club.rank(0), 1);
        check.due("the only leg is void", club.lost(0, 0), -1);
        check.due("and has no split", club.split(0, 0), -1);
        club.draw(0, 1);
        check.due("nothing counts", club.punch(0, 1, 3), 0);
        check.due("all the same", club.stateOf(0), Spurline.RANKED);
    }

    private static void controlNoughtBehindTheStart() {
        Spurline club = withCourses();
        int[] last = {1, 2, 0};
        int[] between = {2, 0, 1};
        for (int index = 0; index < 3; index++) {
            club.visit(2, last[index]);
            club.visit(3, between[index]);
        }
        club.enter(2, 0);
        club.enter(3, 0);
        club.draw(0, 1);
        check.due("nobody was at 0 as finish", club.stateOf(0), Spurline.RUNNING);
        check.due("one ahead of 0", club.punch(0, 2, 3), 1);
        check.due("still not at 0", club.stateOf(0), Spurline.RUNNING);
        check.hasSplits("finish 0", club, 0, 3, -1);
        check.due("the finish 1 alone", club.punch(1, 1, 3), 0);
        check.due("is wrong", club.stateOf(1), Spurline.WRONG);
        check.due("then 0", club.punch(1, 0, 4), 1);
        check.hasSplits("0 between", club, 1, 4, -1);
    }

    private static void splits() {
        Spurline club = withCourses();
        club.enter(0, 0);
        club.enter(0, 0);
        check.hasSplits("ahead of the draw", club, 0, -1, -1, -1);
        club.draw(0, 10);
        check.hasSplits("no punches", club, 0, -1, -1, -1);
        Calls.punchAll(club, 0, 1, 25);
        check.hasSplits("less the start", club, 0, 15, -1, -1);
        Calls.punchAll(club, 0, 3, 26, 2, 30);
        check.hasSplits("a finish that does not count", club, 0, 15, 5, -1);
        Calls.punchAll(club, 0, 3, 30);
        check.hasSplits("all", club, 0, 15, 5, 0);
        check.hasSplits("the other one", club, 1, -1, -1, -1);
    }

    private static void splitsOfVoidLegs() {
        Spurline club = withRunners(10, 0, 1, 1);
        Calls.punchAll(club, 1, 1, 12, 2, 20, 3, 29, 5, 41);
        check.hasSplits("five controls", club, 1, 12, 8, 9, 12);
        club.fail(2, true);
        check.hasSplits("one failed", club, 1, 12, -1, -1, 12);
        check.due("the total of the others", club.total(1), 24);
        club.fail(2, false);
        club.fail(1, true);
        check.hasSplits("another one failed", club, 1, -1, -1, 9, 12);
        club.fail(2, true);
        check.hasSplits("two failed", club, 1, -1, -1, -1, 12);
        check.due("the total of one", club.total(1), 12);
    }

    private static void totalsAndRanks() {
        Spurline club = withRunners(10, 0, 0, 1, 0, 1, 0);
        check.due("no total yet", club.total(0), -1);
        check.due("no rank yet", club.rank(0), -1);
        // Class 0 starts like this: 1, 0, 5, 3.
        Calls.punchAll(club, 1, 1, 5, 2, 20, 3, 40);
        Calls.punchAll(club, 0, 1, 20, 2, 30, 3, 40);
        Calls.punchAll(club, 5, 1, 30, 2, 40, 3, 60);
        check.due("total 1", club.total(1), 40);
        check.due("total 0", club.total(0), 30);
        check.due("total 5", club.total(5), 40);
        check.due("rank 0", club.rank(0), 1);
        check.due("rank 1", club.rank(1), 2);
        check.due("rank 5", club.rank(5), 2);
        check.due("rank 3", club.rank(3), -1);
        Calls.punchAll(club, 2, 1, 20, 2, 21, 3, 22, 5, 23);
        check.due("another class", club.rank(2), 1);
        check.due("does not matter", club.rank(1), 2);
        Calls.punchAll(club, 3, 1, 45, 2, 80, 3, 81);
        check.due("behind two with one rank", club.rank(3), 4);
        club.fail(2, true);
        check.due("ranks made anew: 0", club.rank(0), 2);
        check.due("ranks made anew: 1", club.rank(1), 1);
        check.due("ranks made anew: 3", club.rank(3), 4);
        check.due("ranks made anew: 5", club.rank(5), 2);
        check.due("totals made anew: 0", club.total(0), 10);
    }

    private static void lostTime() {
        Spurline club = withRunners(4, 0, 0);
        check.due("nobody yet", club.lost(0, 0), -1);
        Calls.punchAll(club, 0, 1, 14, 2, 19);
        check.due("under way", club.lost(0, 0), -1);
        Calls.punchAll(club, 0, 3, 34);
        // Alone: each split is the best one, the pace 1000.
        check.due("alone", club.lost(0, 2), 0);
        Calls.punchAll(club, 1, 1, 8, 2, 16, 3, 24);
        // Splits 10, 5, 15 and 8, 8, 8: the best ones are 8, 5, 8. Paces 30000 / 21 = 1428 and 24000 / 21 = 1142.
        check.due("lost 0 0", club.lost(0, 0), 0);
        check.due("lost 0 1", club.lost(0, 1), 0);
        check.due("lost 0 2", club.lost(0, 2), 15 - 11);
        check.due("lost 1 0", club.lost(1, 0), 0);
        check.due("lost 1 1", club.lost(1, 1), 8 - 5);
        check.due("lost 1 2", club.lost(1, 2), 0);
        club.fail(1, true);
        // Only the last leg stands: 15 and 8, the paces 15000 / 8 = 1875 and 1000.
        check.due("void 0", club.lost(0, 0), -1);
        check.due("void 1", club.lost(0, 1), -1);
        check.due("at 1875", club.lost(0, 2), 0);
        check.due("at 1000", club.lost(1, 2), 0);
    }

    private static void lostOnSharedLegs() {
        Spurline club = withRunners(1, 0, 1, 1);
        Calls.punchAll(club, 0, 1, 10, 2, 20, 3, 40);
        check.due("own splits alone", club.lost(0, 2), 0);
        Calls.punchAll(club, 1, 1, 10, 2, 15, 3, 20);
        check.due("one under way is no measure", club.lost(0, 2), 0);
        Calls.punchAll(club, 1, 5, 30);
        // The legs 1 to 2 and 2 to 3 were run in 5 and 5 by class 1. Pace 40000 / 20 = 2000.
        check.due("shared leg 1", club.lost(0, 1), 0);
        check.due("shared leg 2", club.lost(0, 2), 20 - 10);
        check.due("leg 0 is shared with nobody", club.lost(0, 0), 0);
        check.due("the other class", club.lost(1, 3), 0);
        Calls.punchAll(club, 2, 1, 2, 2, 4, 3, 90, 5, 91);
        check.due("best 2 on leg 1, pace 40000 / 17 = 2352", club.lost(0, 1), 10 - 4);
        check.due("best 5 on leg 2", club.lost(0, 2), 20 - 11);
    }

    private static void lostWithoutTime() {
        Spurline club = withRunners(1, 0, 0);
        Calls.punchAll(club, 1, 1, 0, 2, 0, 3, 0);
        check.due("no time at all", club.total(1), 0);
        check.due("nothing lost", club.lost(1, 0), 0);
        Calls.punchAll(club, 0, 1, 1, 2, 9999, 3, 9999);
        check.due("the best of all legs is 0: pace 1000", club.lost(0, 1), 9998);
        check.due("as good as the best", club.lost(0, 0), 0);
        check.due("the last", club.rank(0), 2);
    }

    private static void lostByThePaceRoundedDown() {
        Spurline club = withRunners(1, 0, 0);
        Calls.punchAll(club, 1, 1, 1000, 2, 1000, 3, 1100);
        Calls.punchAll(club, 0, 1, 5001, 2, 5001, 3, 5002);
        // The best splits are 1000, 0 and 1. Pace 5001000 / 1001 = 4996, and 1000 times it / 1000 are 4996.
        check.due("a pace rounded down", club.lost(0, 0), 5000 - 4996);
        check.due("nothing on a leg of no time", club.lost(0, 1), 0);
        // Pace 1100000 / 1001 = 1098, and 1 time it / 1000 is 1.
        check.due("the other one", club.lost(1, 2), 100 - 1);
        Spurline quick = withRunners(5, 0, 0);
        Calls.punchAll(quick, 1, 1, 0, 2, 0, 3, 1);
        Calls.punchAll(quick, 0, 1, 10, 2, 10, 3, 13);
        // The best splits are 0, 0 and 1: pace 8000 / 1.
        check.due("best splits of 1 together", quick.lost(0, 2), 0);
        check.due("all of a leg that can be run in no time", quick.lost(0, 0), 5);
    }

    private static void eachAskStandsAlone() {
        Spurline club = withRunners(1, 0);
        club.fail(1, true);
        Calls.punchAll(club, 0, 2, 5, 3, 7);
        club.fail(1, false);
        check.due("lost asked first", club.lost(0, 2), -1);
        club.fail(1, true);
        check.due("lost after a failure", club.lost(0, 2), 0);
        club.fail(2, true);
        check.due("split after a failure", club.split(0, 2), -1);
        club.fail(2, false);
        check.due("total after it was none", club.total(0), 2);
        club.fail(1, false);
        check.due("rank after it was none", club.rank(0), -1);
    }

    private static void aFullField() {
        Spurline club = withRunners(1, 0, 1, 0, 1, 0, 1, 0, 1, 0, 1, 0, 1, 0, 1, 0, 1, 0, 1, 0, 1, 0, 1, 0, 1);
        for (int runner = 0; runner < 24; runner++) {
            int start = club.startOf(runner);
            Calls.punchAll(club, runner, 1, start + runner, 2, start + 2 * runner, 3, start + 3 * runner);
            Calls.punchAll(club, runner, 5, start + 4 * runner);
        }
        for (int runner = 0; runner < 24; runner++) {
            check.due("state of " + runner, club.stateOf(runner), Spurline.RANKED);
            check.hasSplits("runner " + runner, club, runner, runner, runner, runner);
            check.due("total of " + runner, club.total(runner), runner % 2 == 0 ? 3 * runner : 4 * runner);
            check.due("rank of " + runner, club.rank(runner), 1 + runner / 2);
            check.due("the leg 2 to 3 can be run in 0: " + runner, club.lost(runner, 2), runner);
        }
        check.due("the last leg of the last", club.split(23, 3), 23);
        // The best splits of class 1 are 1, 0, 0 and 1: pace 92000 / 2.
        check.due("lost by the last at the start", club.lost(23, 0), 0);
        check.due("lost by the last at the finish", club.lost(23, 3), 0);
    }

    private static void unknownRunnersAndLegs() {
        Spurline club = withRunners(1, 0, 1);
        for (int runner : new int[] {-1, 2, 24, Integer.MAX_VALUE, Integer.MIN_VALUE}) {
            check.refused("stateOf " + runner, Check.INDEX, () -> club.stateOf(runner));
            check.refused("split " + runner, Check.INDEX, () -> club.split(runner, 0));
            check.refused("total " + runner, Check.INDEX, () -> club.total(runner));
            check.refused("rank " + runner, Check.INDEX, () -> club.rank(runner));
            check.refused("lost " + runner, Check.INDEX, () -> club.lost(runner, 0));
        }
        for (int leg : new int[] {-1, 3, 5, 6, Integer.MAX_VALUE, Integer.MIN_VALUE}) {
            check.refused("split leg " + leg, Check.INDEX, () -> club.split(0, leg));
            check.refused("lost leg " + leg, Check.INDEX, () -> club.lost(0, leg));
        }
        check.due("the last leg of four", club.split(1, 3), -1);
        check.refused("split leg 4 of four", Check.INDEX, () -> club.split(1, 4));
        check.refused("lost leg 4 of four", Check.INDEX, () -> club.lost(1, 4));
    }
}
