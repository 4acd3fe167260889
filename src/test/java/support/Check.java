/** Counts the checks of one test class, prints those that fail, and ends with exit code 1 if one did. */
final class Check {
    /** A call whose answer, or whose exception, is checked. */
    interface Call {
        long answer();
    }

    static final Class<? extends Exception> INDEX = IndexOutOfBoundsException.class;
    static final Class<? extends Exception> ARGUMENT = IllegalArgumentException.class;
    static final Class<? extends Exception> STATE = IllegalStateException.class;

    private int made = 0;
    private int failed = 0;
    private String place = "";

    /** The place in the document that the checks from here on hold: they are told by it. */
    void about(String place) {
        this.place = place + ": ";
    }

    void about(int promise) {
        about("promise " + promise);
    }

    /** What is checked is due. */
    void due(String what, long got, long want) {
        made++;
        if (got != want) {
            fails(what + " answered " + got + ", due is " + want);
        }
    }

    private void fails(String what) {
        failed++;
        System.out.println(place + what);
    }

    void isTrue(String what, boolean got) {
        due(what, got ? 1 : 0, 1);
    }

    void isFalse(String what, boolean got) {
        due(what, got ? 1 : 0, 0);
    }

    /** The call throws just this class of exception, neither one above it nor one below it. */
    void refused(String what, Class<? extends Exception> kind, Call call) {
        made++;
        try {
            long got = call.answer();
            fails(what + " answered " + got + ", due is " + kind.getSimpleName());
        } catch (RuntimeException thrown) {
            if (thrown.getClass() != kind) {
                fails(what + " threw " + thrown + ", due is " + kind.getSimpleName());
            }
        }
    }

    void isCourse(String what, Spurline club, int klass, int... controls) {
        for (int index = 0; index < controls.length; index++) {
            due(what + ": control " + index, club.courseAt(klass, index), controls[index]);
        }
        refused(what + ": no more controls", INDEX, () -> club.courseAt(klass, controls.length));
    }

    void areStarts(String what, Spurline club, int... minutes) {
        for (int runner = 0; runner < minutes.length; runner++) {
            due(what + ": start of " + runner, club.startOf(runner), minutes[runner]);
        }
    }

    void hasSplits(String what, Spurline club, int runner, int... minutes) {
        for (int leg = 0; leg < minutes.length; leg++) {
            due(what + ": split " + leg, club.split(runner, leg), minutes[leg]);
        }
    }

    void end(String name) {
        System.out.println(name + ": " + (made - failed) + " checks hold, " + failed + " do not");
        if (failed > 0 || made == 0) {
            System.exit(1);
        }
    }
}
