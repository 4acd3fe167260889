/** The edges that promises 8, 9, 24 and 25 name: each check is told by its promise's number. */
final class StartEdgesTest {
    private static final Check check = new Check();

    public static void main(String[] args) {
        Unchanged entered = new Unchanged(check, StartEdgesTest::entered);
        Unchanged drawn = new Unchanged(check, StartEdgesTest::drawn);
        Unchanged full = new Unchanged(check, StartEdgesTest::full);
        enter();
        enterRefused(entered, drawn, full);
        drawSeeds();
        drawGaps();
        drawOfClasses();
        drawOfClubs();
        drawRefused(entered, drawn);
        runners();
        startOf(entered, drawn, full);
        check.end("StartEdgesTest");
    }

    /** The classes 0, 3 and 4 have courses; that of class 1 has one control, and that of class 2 has none. */
    private static Spurline withCourses() {
        Spurline club = new Spurline(4, 2);
        for (int control = 0; control < 4; control++) {
            club.control(control, 0);
        }
        for (int klass : new int[] {0, 3, 4}) {
            club.visit(klass, 0);
            club.visit(klass, 1);
        }
        club.visit(1, 3);
        return club;
    }

    private static Spurline withRunners(int count, int klass) {
        Spurline club = withCourses();
        for (int runner = 0; runner < count; runner++) {
            club.enter(klass, runner % 8);
        }
        return club;
    }

    private static Spurline entered() {
        Spurline club = withRunners(2, 0);
        club.enter(4, 7);
        return club;
    }

    private static Spurline drawn() {
        Spurline club = entered();
        club.draw(1000, 5);
        return club;
    }

    private static Spurline full() {
        return withRunners(24, 4);
    }

    private static void enter() {
        check.about(8);
        Spurline club = withCourses();
        check.due("the least class, the least club", club.enter(0, 0), 0);
        check.due("the least class, the greatest club", club.enter(0, 7), 1);
        check.due("the greatest class, the least club", club.enter(4, 0), 2);
        check.due("the greatest class, the greatest club", club.enter(4, 7), 3);
        for (int runner = 4; runner < 24; runner++) {
            check.due("one more", club.enter(3, 1), runner);
        }
        check.refused("a 25th", Check.STATE, () -> club.enter(0, 0));
        Spurline other = withCourses();
        other.visit(1, 0);
        check.due("the second control makes a course", other.enter(1, 0), 0);
        other.visit(2, 3);
        check.refused("the first does not", Check.STATE, () -> other.enter(2, 0));
    }

    private static void enterRefused(Unchanged entered, Unchanged drawn, Unchanged full) {
        check.about(8);
        entered.numbersBeyond("class", 0, 4, Check.INDEX, (club, klass) -> club.enter(klass, 0));
        entered.numbersBeyond("club", 0, 7, Check.ARGUMENT, (club, number) -> club.enter(0, number));
        entered.refused("a course of one control", Check.STATE, club -> club.enter(1, 0));
        entered.refused("a course without controls", Check.STATE, club -> club.enter(2, 0));
        entered.numbersBeyond("no class ahead of the club", 0, 4, Check.INDEX, (club, klass) -> club.enter(klass, 8));
        entered.numbersBeyond("club ahead of one control", 0, 7, Check.ARGUMENT, (club, number) -> club.enter(1, number));
        entered.numbersBeyond("club ahead of no controls", 0, 7, Check.ARGUMENT, (club, number) -> club.enter(2, number));
        for (int number = 0; number < 5; number++) {
            int klass = number;
            drawn.refused("starts were drawn, class " + klass, Check.STATE, club -> club.enter(klass, 0));
            full.refused("there are 24, class " + klass, Check.STATE, club -> club.enter(klass, 0));
        }
        drawn.numbersBeyond("no class ahead of the draw", 0, 4, Check.INDEX, (club, klass) -> club.enter(klass, 0));
        drawn.numbersBeyond("club ahead of the draw", 0, 7, Check.ARGUMENT, (club, number) -> club.enter(0, number));
        full.numbersBeyond("no class ahead of 24", 0, 4, Check.INDEX, (club, klass) -> club.enter(klass, 0));
        full.numbersBeyond("club ahead of 24", 0, 7, Check.ARGUMENT, (club, number) -> club.enter(4, number));
        full.numbersBeyond("no class ahead of all", 0, 4, Check.INDEX, (club, klass) -> club.enter(klass, -1));
    }

    private static void drawSeeds() {
        check.about(9);
        Spurline least = withRunners(3, 0);
        check.due("the least seed", least.draw(0, 1), 2);
        // The lots are 1663, 911 and 7194.
        check.areStarts("the least seed", least, 1, 0, 2);
        Spurline greatest = withRunners(3, 0);
        check.due("the greatest seed", greatest.draw(7874, 1), 2);
        // The lots are 1242, 4795 and 4358.
        check.areStarts("the greatest seed", greatest, 0, 2, 1);
        Spurline nought = withRunners(2, 0);
        // 421 times 2222 and 1663, together, are 119 times 7875: the lots are 0 and 1663.
        check.due("the seed of lot 0", nought.draw(2222, 1), 1);
        check.areStarts("lot 0 is the least", nought, 0, 1);
    }

    private static void drawGaps() {
        check.about(9);
        for (int gap : new int[] {1, 10}) {
            check.due("one runner, gap " + gap, withRunners(1, 0).draw(5, gap), 0);
            check.due("two runners, gap " + gap, withRunners(2, 4).draw(5, gap), gap);
            Spurline club = full();
            check.due("24 runners, gap " + gap, club.draw(5, gap), 23 * gap);
            boolean[] taken = new boolean[24];
            for (int runner = 0; runner < 24; runner++) {
                taken[club.startOf(runner) / gap] = true;
            }
            for (int place = 0; place < 24; place++) {
                check.isTrue("gap " + gap + ": somebody starts as " + place, taken[place]);
            }
        }
    }

    private static void drawOfClasses() {
        check.about(9);
        for (int longer : new int[] {0, 3, 4}) {
            Spurline club = withCourses();
            for (int klass : new int[] {0, 3, 4, longer}) {
                club.enter(klass, 0);
            }
            check.due("two in class " + longer + " alone", club.draw(3, 7), 7);
            for (int runner = 0; runner < 4; runner++) {
                boolean isAlone = runner < 3 && new int[] {0, 3, 4}[runner] != longer;
                check.isTrue("alone at 0: " + runner, !isAlone || club.startOf(runner) == 0);
            }
        }
    }

    private static void drawOfClubs() {
        check.about(9);
        Spurline one = withCourses();
        Spurline two = withCourses();
        for (int runner = 0; runner < 4; runner++) {
            one.enter(0, 7);
            two.enter(0, runner == 2 ? 0 : 7);
        }
        // The lots are 1663, 911, 7194, 6337.
        check.due("one club: there is no other one", one.draw(0, 1), 3);
        check.areStarts("one club", one, 1, 0, 3, 2);
        check.due("one of another club", two.draw(0, 1), 3);
        check.areStarts("goes between the first two", two, 2, 0, 1, 3);
    }

    private static void drawRefused(Unchanged entered, Unchanged drawn) {
        check.about(9);
        Unchanged none = new Unchanged(check, StartEdgesTest::withCourses);
        entered.numbersBeyond("seed", 0, 7874, Check.ARGUMENT, (club, seed) -> club.draw(seed, 1));
        entered.numbersBeyond("gap", 1, 10, Check.ARGUMENT, (club, gap) -> club.draw(0, gap));
        entered.refused("neither seed nor gap", Check.ARGUMENT, club -> club.draw(-1, 0));
        none.refused("no runners", Check.STATE, club -> club.draw(0, 1));
        none.numbersBeyond("seed ahead of no runners", 0, 7874, Check.ARGUMENT, (club, seed) -> club.draw(seed, 1));
        none.numbersBeyond("gap ahead of no runners", 1, 10, Check.ARGUMENT, (club, gap) -> club.draw(0, gap));
        drawn.refused("starts were drawn", Check.STATE, club -> club.draw(0, 1));
        drawn.refused("starts were drawn just so", Check.STATE, club -> club.draw(1000, 5));
        drawn.numbersBeyond("seed ahead of the draw", 0, 7874, Check.ARGUMENT, (club, seed) -> club.draw(seed, 1));
        drawn.numbersBeyond("gap ahead of the draw", 1, 10, Check.ARGUMENT, (club, gap) -> club.draw(0, gap));
    }

    private static void runners() {
        check.about(24);
        check.due("a new object", new Spurline(2, 2).runners(), 0);
        Spurline club = withCourses();
        check.due("no runners", club.runners(), 0);
        for (int count = 1; count <= 24; count++) {
            club.enter(0, 0);
            check.due("runners", club.runners(), count);
        }
        check.refused("a 25th", Check.STATE, () -> club.enter(0, 0));
        check.due("24 still", club.runners(), 24);
        club.draw(0, 1);
        check.due("after the draw", club.runners(), 24);
    }

    private static void startOf(Unchanged entered, Unchanged drawn, Unchanged full) {
        check.about(25);
        Spurline club = full();
        for (int runner = 0; runner < 24; runner++) {
            check.due("starts were not drawn: " + runner, club.startOf(runner), Spurline.NONE);
        }
        club.draw(0, 10);
        int first = 0;
        int last = 0;
        for (int runner = 0; runner < 24; runner++) {
            first += club.startOf(runner) == 0 ? 1 : 0;
            last += club.startOf(runner) == 230 ? 1 : 0;
        }
        check.due("the first one at 0", first, 1);
        check.due("the last one at 230", last, 1);
        entered.numbersBeyond("runner ahead of the draw", 0, 2, Check.INDEX, (other, runner) -> other.startOf(runner));
        drawn.numbersBeyond("runner", 0, 2, Check.INDEX, (other, runner) -> other.startOf(runner));
        full.numbersBeyond("runner of 24", 0, 23, Check.INDEX, (other, runner) -> other.startOf(runner));
        check.refused("0 of none", Check.INDEX, () -> withCourses().startOf(0));
    }
}
