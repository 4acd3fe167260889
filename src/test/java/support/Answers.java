/**
 * What a club answers to many calls, as one text: clubs that were made alike answer alike. Each text takes fewer than
 * 400 calls, as nothing is promised of an object's calls behind the 512th.
 */
final class Answers {
    private static final int KLASSES = 5;
    private static final int CONTROLS = 12;
    private static final int RUNNERS = 24;

    private final StringBuilder text = new StringBuilder();

    static String toQuestions(Spurline club) {
        Answers answers = new Answers();
        answers.askOfTheMap(club);
        answers.askOfCourses(club);
        answers.askOfRunners(club, 3);
        return answers.text.toString();
    }

    /** What was told so far shows as well in what can be told now, and in what comes of it. */
    static String toTelling(Spurline club) {
        Answers answers = new Answers();
        answers.tell(club);
        answers.askOfRunners(club, 2);
        return answers.text.toString();
    }

    private void add(Check.Call call) {
        try {
            text.append(call.answer());
        } catch (RuntimeException thrown) {
            text.append(thrown.getClass().getSimpleName());
        }
        text.append(' ');
    }

    private void askOfTheMap(Spurline club) {
        for (int x = 0; x < 5; x++) {
            for (int y = 0; y < 4; y++) {
                int column = x;
                int row = y;
                add(() -> club.cell(column, row));
            }
        }
        for (int level : new int[] {1, 5, 10, 255}) {
            add(() -> club.lines(level));
            add(() -> club.rings(level));
            add(() -> club.longest(level));
        }
        for (int control = 0; control < CONTROLS; control++) {
            int from = control;
            int to = (control + 1) % CONTROLS;
            add(() -> club.cost(from, to));
            add(() -> club.costByCells(from, to));
            add(() -> club.climb(from, to));
            add(() -> club.tempts(from, to) ? 1 : 0);
        }
    }

    private void askOfCourses(Spurline club) {
        for (int number = 0; number < KLASSES; number++) {
            int klass = number;
            for (int place = 0; place < 6; place++) {
                int index = place;
                add(() -> club.courseAt(klass, index));
            }
            add(() -> club.courseClimb(klass));
            add(() -> club.courseCost(klass));
        }
        add(club::spread);
        add(club::runners);
    }

    private void askOfRunners(Spurline club, int legs) {
        for (int number = 0; number < RUNNERS; number++) {
            int runner = number;
            add(() -> club.startOf(runner));
            add(() -> club.stateOf(runner));
            add(() -> club.total(runner));
            add(() -> club.rank(runner));
            for (int place = 0; place < legs; place++) {
                int leg = place;
                add(() -> club.split(runner, leg));
                add(() -> club.lost(runner, leg));
            }
        }
    }

    private void tell(Spurline club) {
        add(() -> club.setHeight(1, 1, 77));
        add(() -> club.hill(0, 0, 60, 9));
        add(() -> club.setGround(0, 1, 1, 1, 2));
        add(() -> club.control(1, 1));
        for (int number = 0; number < KLASSES; number++) {
            int klass = number;
            add(() -> club.visit(klass, klass));
            add(() -> club.visit(klass, 1));
            add(() -> club.arrange(klass, 50));
            add(() -> club.enter(klass, klass));
        }
        add(() -> club.draw(3, 2));
        for (int number = 0; number < RUNNERS; number++) {
            int runner = number;
            add(() -> club.punch(runner, 1, 300));
        }
        for (int number = 0; number < CONTROLS; number++) {
            int control = number;
            add(() -> club.fail(control, true) ? 1 : 0);
        }
    }
}
