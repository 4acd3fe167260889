import java.lang.reflect.InvocationTargetException;
import java.lang.reflect.Method;
import java.lang.reflect.Modifier;
import java.util.Arrays;
import java.util.Map;
import java.util.TreeMap;

/** Long runs of calls, always the same ones, on Spurline and on the Model side by side: each answer is to be the same. */
final class ModelTest {
    private static final int RUNS = 800;
    private static final int CALLS_OF_A_RUN = 512;

    /** Kinds of answers that the runs are to hold, or else they tell too little. */
    private static final String KINDS = "setHeight more, hill more, setGround more, control more, visit more, enter more,"
        + " arrange -1, arrange 0, arrange more, draw more, punch 0, punch more, fail true, fail false, cell more,"
        + " lines 0, lines more, rings 0, rings more, longest more, cost -1, cost 0, cost more, costByCells -1,"
        + " costByCells more, climb -1, climb 0, climb more, tempts true, tempts false, courseAt more, courseClimb -1,"
        + " courseClimb more, courseCost more, spread 0, spread more, runners more, startOf -1, startOf 0, startOf more,"
        + " stateOf 0, stateOf more, split -1, split 0, split more, total -1, total 0, total more, rank -1, rank more,"
        + " lost -1, lost 0, lost more";

    private static final Check check = new Check();
    private static final Map<String, Method> onSpurline = new TreeMap<>();
    private static final Map<String, Method> onModel = new TreeMap<>();
    private static final Map<String, Integer> answered = new TreeMap<>();

    private static long number = 1;

    private final StringBuilder told = new StringBuilder();
    private final Spurline spurline;
    private final Model model;
    private final int run;
    private int width;
    private int height;
    private int made = 0;
    private boolean agrees = true;

    private ModelTest(int run) {
        this.run = run;
        width = below(8) == 0 ? below(16) - 1 : 2 + below(below(2) == 0 ? 4 : 11);
        height = below(8) == 0 ? below(16) - 1 : 2 + below(below(2) == 0 ? 4 : 11);
        spurline = new Spurline(width, height);
        model = new Model(width, height);
        told.append("new (").append(width).append(", ").append(height).append(")");
        width = Math.max(2, Math.min(12, width));
        height = Math.max(2, Math.min(12, height));
    }

    public static void main(String[] args) throws ReflectiveOperationException {
        for (Method method : Spurline.class.getDeclaredMethods()) {
            if (Modifier.isPublic(method.getModifiers())) {
                onSpurline.put(method.getName(), method);
                onModel.put(method.getName(), Model.class.getDeclaredMethod(method.getName(), method.getParameterTypes()));
            }
        }
        int failures = 0;
        for (int run = 0; run < RUNS && failures < 3; run++) {
            failures += new ModelTest(run).goes() ? 0 : 1;
        }
        for (String kind : KINDS.split(", ")) {
            check.isTrue("often enough " + kind, answered.getOrDefault(kind, 0) >= RUNS / 4);
        }
        check.end("ModelTest");
    }

    /** A number from 0 on; the numbers are the same for each run of the test. */
    private static int below(int bound) {
        number = number * 6364136223846793005L + 1442695040888963407L;
        return (int) ((number >>> 33) % bound);
    }

    private boolean goes() throws ReflectiveOperationException {
        setUp();
        while (made < CALLS_OF_A_RUN && agrees) {
            anyCall();
        }
        return agrees;
    }

    private void setUp() throws ReflectiveOperationException {
        int top = new int[] {3, 30, 255}[below(3)];
        for (int cell = below(40); cell > 0; cell--) {
            call("setHeight", below(width), below(height), below(top + 1));
        }
        for (int hill = below(4); hill > 0; hill--) {
            call("hill", below(width), below(height), below(top + 1), 1 + below(top));
        }
        for (int piece = below(6); piece > 0; piece--) {
            int x = below(width);
            int y = below(height);
            call("setGround", x, y, x + below(width - x), y + below(height - y), below(5));
        }
        for (int control = 2 + below(20); control > 0; control--) {
            call("control", below(width), below(height));
        }
        if (below(3) == 0) {
            call("fail", below(12), true);
        }
        for (int visit = below(40); visit > 0; visit--) {
            call("visit", below(5), aControl());
        }
        for (int order = below(6); order > 0; order--) {
            call("arrange", below(5), below(below(2) == 0 ? 60 : 700));
            call("courseAt", below(5), 1 + below(4));
        }
        for (int runner = below(30); runner > 0; runner--) {
            call("enter", below(5), below(below(2) == 0 ? 2 : 8));
        }
        if (below(4) > 0) {
            call("draw", below(7875), 1 + below(10));
        }
    }

    private void anyCall() throws ReflectiveOperationException {
        switch (below(24)) {
            case 0 -> call("setHeight", x(), y(), below(20) == 0 ? wild() : below(256));
            case 1 -> call("hill", x(), y(), below(20) == 0 ? wild() : below(256), below(20) == 0 ? wild() : below(40));
            case 2 -> call("setGround", x(), y(), x(), y(), below(12) == 0 ? wild() : below(5));
            case 3 -> call("control", x(), y());
            case 4 -> call("visit", klass(), aControl());
            case 5 -> call("arrange", klass(), below(10) == 0 ? wild() : below(below(2) == 0 ? 60 : 700));
            case 6 -> call("enter", klass(), below(10) == 0 ? wild() : below(8));
            case 7 -> {
                if (below(8) == 0) {
                    call("draw", below(10) == 0 ? wild() : below(7875), below(12));
                }
            }
            case 8, 9, 10, 11 -> runACourse();
            case 12, 13 -> call("fail", aControl(), below(2) == 0);
            case 14 -> call("cell", x(), y());
            case 15 -> askOfLevels();
            case 16, 17 -> askOfRoutes();
            case 18, 19 -> askOfCourses();
            default -> askOfRunners();
        }
    }

    /** Punches mostly what comes next, so that runners come to the finish. */
    private void runACourse() throws ReflectiveOperationException {
        int runner = below(Math.max(1, model.runners()));
        int minute = model.earliestPunch(runner);
        for (int index = 1; index < 6; index++) {
            minute += below(4) == 0 ? 0 : below(12);
            int control = below(8) == 0 ? aControl() : model.controlOnTheWay(runner, index);
            call("punch", below(60) == 0 ? wild() : runner, control, below(40) == 0 ? wild() : minute);
        }
    }

    private void askOfLevels() throws ReflectiveOperationException {
        int level = below(12) == 0 ? wild() : 1 + below(below(2) == 0 ? 8 : 255);
        call("lines", level);
        call("rings", level);
        call("longest", level);
    }

    private void askOfRoutes() throws ReflectiveOperationException {
        int from = aControl();
        int to = aControl();
        call("cost", from, to);
        call("costByCells", from, to);
        call("climb", from, to);
        call("tempts", from, to);
    }

    private void askOfCourses() throws ReflectiveOperationException {
        int klass = klass();
        call("courseAt", klass, below(20) == 0 ? wild() : below(7));
        call("courseClimb", klass);
        call("courseCost", klass);
        call("spread");
    }

    private void askOfRunners() throws ReflectiveOperationException {
        int runner = below(20) == 0 ? wild() : below(Math.max(1, model.runners()));
        int leg = below(20) == 0 ? wild() : below(4);
        call("runners");
        call("startOf", runner);
        call("stateOf", runner);
        call("split", runner, leg);
        call("total", runner);
        call("rank", runner);
        call("lost", runner, leg);
    }

    private int x() {
        return below(40) == 0 ? wild() : below(width);
    }

    private int y() {
        return below(40) == 0 ? wild() : below(height);
    }

    private int klass() {
        return below(30) == 0 ? wild() : below(5);
    }

    private int aControl() {
        return below(30) == 0 ? wild() : below(1 + model.controlCount());
    }

    private static int wild() {
        int[] wild = {-1, -2, 0, 5, 6, 7, 8, 11, 12, 13, 24, 255, 256, 7875, 9999, 10000,
            Integer.MAX_VALUE, Integer.MIN_VALUE, 1 << 30, -(1 << 30)};
        return wild[below(wild.length)];
    }

    private void call(String name, Object... arguments) throws ReflectiveOperationException {
        if (!agrees || made == CALLS_OF_A_RUN) {
            return;
        }
        made++;
        String due = answer(onModel.get(name), model, arguments);
        String got = answer(onSpurline.get(name), spurline, arguments);
        told.append("\n  ").append(name).append(Arrays.toString(arguments)).append(" ").append(due);
        answered.merge(kind(name, due), 1, Integer::sum);
        agrees = due.equals(got);
        if (!agrees) {
            System.out.println("run " + run + ": " + told + "\n  but the program answered " + got);
        }
        check.isTrue("run " + run + ", " + name, agrees);
    }

    /** What kind of answer it is: an exception, NONE or false, 0, or more. */
    private static String kind(String name, String answer) {
        boolean isMore = !answer.startsWith("throws.") && !answer.equals("-1") && !answer.equals("0");
        return name + " " + (isMore && !answer.equals("true") && !answer.equals("false") ? "more" : answer);
    }

    private static String answer(Method method, Object owner, Object[] arguments) throws ReflectiveOperationException {
        try {
            return String.valueOf(method.invoke(owner, arguments));
        } catch (InvocationTargetException thrown) {
            return "throws." + thrown.getCause().getClass().getSimpleName();
        }
    }
}
