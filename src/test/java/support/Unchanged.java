import java.util.function.Supplier;
import java.util.function.ToLongFunction;

/** Calls that leave a club as it was: those that it refuses, and questions. */
final class Unchanged {
    /** A call with an x and a y. */
    interface CellCall {
        long answer(Spurline club, int x, int y);
    }

    /** A call with one number that is looked at. */
    interface NumberCall {
        long answer(Spurline club, int number);
    }

    private final Check check;
    private final Supplier<Spurline> maker;
    private final String asked;
    private final String told;

    /** The maker makes one club after another, all alike. */
    Unchanged(Check check, Supplier<Spurline> maker) {
        this.check = check;
        this.maker = maker;
        asked = Answers.toQuestions(maker.get());
        told = Answers.toTelling(maker.get());
    }

    void refused(String what, Class<? extends Exception> kind, ToLongFunction<Spurline> call) {
        Spurline club = maker.get();
        check.refused(what, kind, () -> call.applyAsLong(club));
        Spurline other = maker.get();
        check.refused(what, kind, () -> call.applyAsLong(other));
        areAsTheyWere(what + ", refused,", club, other);
    }

    void asked(String what, long due, ToLongFunction<Spurline> question) {
        Spurline club = maker.get();
        check.due(what, question.applyAsLong(club), due);
        Spurline other = maker.get();
        check.due(what + ", once more", question.applyAsLong(other), due);
        areAsTheyWere(what, club, other);
    }

    private void areAsTheyWere(String what, Spurline club, Spurline other) {
        check.isTrue(what + " leaves all answers", Answers.toQuestions(club).equals(asked));
        check.isTrue(what + " leaves what comes later", Answers.toTelling(other).equals(told));
    }

    /** All cells around the map, and those that a cell's number alone would take for others. */
    void cellsBeyond(String what, int width, int height, CellCall call) {
        int[][] cells = {{-1, 0}, {0, -1}, {width, 0}, {0, height}, {-1, height - 1}, {width, height - 1},
            {width - 1, -1}, {width - 1, height}, {12, 0}, {-12, 1}, {12, -1}, {-1, 1}, {width, -1}, {0, 12},
            {Integer.MIN_VALUE, 0}, {Integer.MAX_VALUE, 0}, {0, Integer.MIN_VALUE}, {0, Integer.MAX_VALUE},
            {Integer.MIN_VALUE, Integer.MAX_VALUE}};
        for (int[] cell : cells) {
            refused(what + " at " + cell[0] + " " + cell[1], Check.INDEX, club -> call.answer(club, cell[0], cell[1]));
        }
    }

    /** The numbers just beyond the least and the greatest one, and the farthest ones. */
    void numbersBeyond(String what, int least, int greatest, Class<? extends Exception> kind, NumberCall call) {
        for (int number : new int[] {least - 1, greatest + 1, Integer.MIN_VALUE, Integer.MAX_VALUE}) {
            refused(what + " " + number, kind, club -> call.answer(club, number));
        }
    }
}
