/** Several calls of one kind, told in one row. */
final class Calls {
    private Calls() {
    }

    static void visitAll(Spurline club, int klass, int... controls) {
        for (int control : controls) {
            club.visit(klass, control);
        }
    }

    static void punchAll(Spurline club, int runner, int... controlsAndMinutes) {
        for (int index = 0; index < controlsAndMinutes.length; index += 2) {
            club.punch(runner, controlsAndMinutes[index], controlsAndMinutes[index + 1]);
        }
    }
}
