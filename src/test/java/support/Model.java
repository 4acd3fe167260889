import java.util.ArrayList;
import java.util.Arrays;
import java.util.Collections;
import java.util.HashMap;
import java.util.HashSet;
import java.util.List;
import java.util.Map;
import java.util.Set;

/**
 * The document once more, written as its words go and without a thought of speed, with the Java library.
 * ModelTest holds Spurline against it. The calls bear the names and parameters of the face.
 */
final class Model {
    private record Runner(int klass, int club, List<int[]> punches) { }

    private record Leg(int cost, int climb) { }

    private final int width;
    private final int height;
    private final int[][] heights;
    private final int[][] grounds;
    private final List<int[]> controls = new ArrayList<>();
    private final Set<Integer> failed = new HashSet<>();
    private final List<List<Integer>> courses = new ArrayList<>();
    private final List<Runner> runners = new ArrayList<>();
    private final Map<Integer, Integer> starts = new HashMap<>();

    Model(int width, int height) {
        this.width = width < 2 ? 2 : width > 12 ? 12 : width;
        this.height = height < 2 ? 2 : height > 12 ? 12 : height;
        heights = new int[this.width][this.height];
        grounds = new int[this.width][this.height];
        for (int klass = 0; klass < 5; klass++) {
            courses.add(new ArrayList<>());
        }
    }

    private static void index(boolean holds) {
        if (!holds) {
            throw new IndexOutOfBoundsException();
        }
    }

    private static void argument(boolean holds) {
        if (!holds) {
            throw new IllegalArgumentException();
        }
    }

    private static void state(boolean holds) {
        if (!holds) {
            throw new IllegalStateException();
        }
    }

    private boolean onMap(int x, int y) {
        return 0 <= x && x < width && 0 <= y && y < height;
    }

    private static boolean in(int value, int least, int most) {
        return least <= value && value <= most;
    }

    int setHeight(int x, int y, int height) {
        index(onMap(x, y));
        argument(in(height, 0, 255));
        int had = heights[x][y];
        heights[x][y] = height;
        return had;
    }

    int hill(int x, int y, int top, int fall) {
        index(onMap(x, y));
        argument(in(top, 0, 255) && in(fall, 1, 255));
        int higher = 0;
        for (int column = 0; column < width; column++) {
            for (int row = 0; row < height; row++) {
                int least = top;
                for (int ring = 0; Math.abs(column - x) > ring || Math.abs(row - y) > ring; ring++) {
                    least -= fall;
                }
                if (least > heights[column][row]) {
                    heights[column][row] = least;
                    higher++;
                }
            }
        }
        return higher;
    }

    int setGround(int x, int y, int toX, int toY, int ground) {
        index(onMap(x, y) && onMap(toX, toY));
        argument(toX >= x && toY >= y && in(ground, 0, 4));
        int other = 0;
        for (int column = x; column <= toX; column++) {
            for (int row = y; row <= toY; row++) {
                other += grounds[column][row] != ground ? 1 : 0;
                grounds[column][row] = ground;
            }
        }
        return other;
    }

    int control(int x, int y) {
        index(onMap(x, y));
        state(controls.size() < 12 && grounds[x][y] != 4);
        for (int[] control : controls) {
            state(control[0] != x || control[1] != y);
        }
        controls.add(new int[] {x, y});
        return controls.size() - 1;
    }

    int controlCount() {
        return controls.size();
    }

    private boolean isControl(int control) {
        return in(control, 0, controls.size() - 1);
    }

    int visit(int klass, int control) {
        index(in(klass, 0, 4) && isControl(control));
        List<Integer> course = courses.get(klass);
        state(course.size() < 6 && !course.contains(control) && starts.isEmpty());
        course.add(control);
        return course.size();
    }

    int arrange(int klass, int climb) {
        index(in(klass, 0, 4));
        argument(in(climb, 0, 9999));
        state(starts.isEmpty());
        List<Integer> course = courses.get(klass);
        if (course.size() >= 2) {
            List<List<Integer>> orders = new ArrayList<>();
            List<Integer> between = new ArrayList<>(course.subList(1, course.size() - 1));
            collect(orders, new ArrayList<>(List.of(course.get(0))), between, course.get(course.size() - 1));
            orders.removeIf(order -> legs(order) == null);
            if (!orders.isEmpty()) {
                courses.set(klass, Collections.min(orders, (one, other) -> {
                    Leg first = legs(one);
                    Leg second = legs(other);
                    int near = Integer.compare(Math.abs(first.climb - climb), Math.abs(second.climb - climb));
                    int dear = Integer.compare(first.cost, second.cost);
                    return near != 0 ? near : dear != 0 ? dear : compareRows(one, other);
                }));
            }
        }
        return courseClimb(klass);
    }

    private static int compareRows(List<Integer> one, List<Integer> other) {
        for (int index = 0; index < one.size(); index++) {
            if (!one.get(index).equals(other.get(index))) {
                return one.get(index) - other.get(index);
            }
        }
        return 0;
    }

    private static void collect(List<List<Integer>> orders, List<Integer> begun, List<Integer> left, int finish) {
        if (left.isEmpty()) {
            List<Integer> order = new ArrayList<>(begun);
            order.add(finish);
            orders.add(order);
        }
        for (Integer next : left) {
            List<Integer> more = new ArrayList<>(begun);
            more.add(next);
            List<Integer> less = new ArrayList<>(left);
            less.remove(next);
            collect(orders, more, less, finish);
        }
    }

    int enter(int klass, int club) {
        index(in(klass, 0, 4));
        argument(in(club, 0, 7));
        state(runners.size() < 24 && starts.isEmpty() && courses.get(klass).size() >= 2);
        runners.add(new Runner(klass, club, new ArrayList<>()));
        return runners.size() - 1;
    }

    int draw(int seed, int gap) {
        argument(in(seed, 0, 7874) && in(gap, 1, 10));
        state(!runners.isEmpty() && starts.isEmpty());
        List<int[]> lots = new ArrayList<>();
        int number = seed;
        for (int runner = 0; runner < runners.size(); runner++) {
            number = (421 * number + 1663) % 7875;
            lots.add(new int[] {number, runner});
        }
        lots.sort((one, other) -> one[0] != other[0] ? one[0] - other[0] : one[1] - other[1]);
        int last = 0;
        for (int klass = 0; klass < 5; klass++) {
            List<Integer> left = new ArrayList<>();
            for (int[] lot : lots) {
                if (runners.get(lot[1]).klass == klass) {
                    left.add(lot[1]);
                }
            }
            int minute = 0;
            int club = -1;
            while (!left.isEmpty()) {
                int chosen = left.get(0);
                for (int at = left.size() - 1; at >= 0; at--) {
                    if (runners.get(left.get(at)).club != club) {
                        chosen = left.get(at);
                    }
                }
                left.remove((Integer) chosen);
                starts.put(chosen, minute);
                last = Math.max(last, minute);
                minute += gap;
                club = runners.get(chosen).club;
            }
        }
        return last;
    }

    int punch(int runner, int control, int minute) {
        index(in(runner, 0, runners.size() - 1) && isControl(control));
        List<int[]> punches = runners.get(runner).punches;
        state(!starts.isEmpty() && punches.size() < 20);
        argument(in(minute, 0, 9999) && minute >= starts.get(runner));
        argument(punches.isEmpty() || minute >= punches.get(punches.size() - 1)[1]);
        punches.add(new int[] {control, minute});
        return counting(runner).size();
    }

    /** The first minute at which a runner may punch; 0 if there is no such runner, or no start. */
    int earliestPunch(int runner) {
        if (!starts.containsKey(runner)) {
            return 0;
        }
        List<int[]> punches = runners.get(runner).punches;
        return punches.isEmpty() ? starts.get(runner) : punches.get(punches.size() - 1)[1];
    }

    /** The control of a runner's course at an index; 0 if there is none. */
    int controlOnTheWay(int runner, int index) {
        return runner < runners.size() && index < courseOf(runner).size() ? courseOf(runner).get(index) : 0;
    }

    boolean fail(int control, boolean hasFailed) {
        index(isControl(control));
        for (List<Integer> course : courses) {
            state(course.isEmpty() || course.get(0) != control && course.get(course.size() - 1) != control);
        }
        return hasFailed ? !failed.add(control) : failed.remove(control);
    }

    int cell(int x, int y) {
        index(onMap(x, y));
        return 10 * heights[x][y] + grounds[x][y];
    }

    /** A gap is named by the sum of the places of its two cells, which is the middle between them twice over. */
    private static int gap(int x, int y, int otherX, int otherY) {
        return (x + otherX) * 100 + y + otherY;
    }

    private List<Set<Integer>> contours(int level) {
        argument(in(level, 1, 255));
        List<Set<Integer>> contours = new ArrayList<>();
        for (int x = 0; x < width; x++) {
            for (int y = 0; y < height; y++) {
                addGap(contours, x, y, x + 1, y, level);
                addGap(contours, x, y, x, y + 1, level);
            }
        }
        for (int x = 0; x + 1 < width; x++) {
            for (int y = 0; y + 1 < height; y++) {
                joinSquare(contours, x, y, level);
            }
        }
        return contours;
    }

    private void addGap(List<Set<Integer>> contours, int x, int y, int otherX, int otherY, int level) {
        if (onMap(otherX, otherY) && heights[x][y] >= level != heights[otherX][otherY] >= level) {
            contours.add(new HashSet<>(Set.of(gap(x, y, otherX, otherY))));
        }
    }

    private void joinSquare(List<Set<Integer>> contours, int x, int y, int level) {
        int[][] cells = {{x, y}, {x + 1, y}, {x + 1, y + 1}, {x, y + 1}};
        List<Integer> gaps = new ArrayList<>();
        int together = 0;
        for (int at = 0; at < 4; at++) {
            int[] cell = cells[at];
            int[] next = cells[(at + 1) % 4];
            together += heights[cell[0]][cell[1]];
            if (heights[cell[0]][cell[1]] >= level != heights[next[0]][next[1]] >= level) {
                gaps.add(gap(cell[0], cell[1], next[0], next[1]));
            }
        }
        if (gaps.size() == 2) {
            joinTwo(contours, gaps.get(0), gaps.get(1));
        }
        for (int at = 0; at < 4 && gaps.size() == 4; at++) {
            boolean high = heights[cells[at][0]][cells[at][1]] >= level;
            if (high != together >= 4 * level) {
                joinTwo(contours, gaps.get(at), gaps.get((at + 3) % 4));
            }
        }
    }

    private static void joinTwo(List<Set<Integer>> contours, int gap, int other) {
        Set<Integer> joined = new HashSet<>();
        for (Set<Integer> line : new ArrayList<>(contours)) {
            if (line.contains(gap) || line.contains(other)) {
                joined.addAll(line);
                contours.remove(line);
            }
        }
        contours.add(joined);
    }

    int lines(int level) {
        return contours(level).size();
    }

    int rings(int level) {
        int rings = 0;
        for (Set<Integer> line : contours(level)) {
            boolean ring = true;
            for (int gap : line) {
                int x = gap / 100;
                int y = gap % 100;
                // An odd sum lies between two cells: that way the gap has its two cells, the other way its squares.
                ring = ring && (x % 2 == 1 ? y > 0 && y < 2 * height - 2 : x > 0 && x < 2 * width - 2);
            }
            rings += ring ? 1 : 0;
        }
        return rings;
    }

    int longest(int level) {
        int longest = 0;
        for (Set<Integer> line : contours(level)) {
            longest = Math.max(longest, line.size());
        }
        return longest;
    }

    /** Null if there is no route. */
    private Leg route(int from, int to, boolean overForbidden) {
        long[][] best = new long[width][height];
        for (long[] column : best) {
            Arrays.fill(column, Long.MAX_VALUE);
        }
        best[controls.get(from)[0]][controls.get(from)[1]] = 0;
        boolean better = true;
        while (better) {
            better = false;
            for (int x = 0; x < width; x++) {
                for (int y = 0; y < height; y++) {
                    for (int[] step : new int[][] {{1, 0}, {0, 1}, {-1, 0}, {0, -1}}) {
                        better |= improve(best, x, y, x + step[0], y + step[1], overForbidden);
                    }
                }
            }
        }
        long found = best[controls.get(to)[0]][controls.get(to)[1]];
        return found == Long.MAX_VALUE ? null : new Leg((int) (found / 1000000), (int) (found % 1000000));
    }

    private boolean improve(long[][] best, int x, int y, int toX, int toY, boolean overForbidden) {
        if (best[x][y] == Long.MAX_VALUE || !onMap(toX, toY) || grounds[toX][toY] == 4 && !overForbidden) {
            return false;
        }
        int up = Math.max(0, heights[toX][toY] - heights[x][y]);
        int flat = new int[] {10, 12, 20, 40, 10}[grounds[toX][toY]];
        long found = best[x][y] + (flat + 4 * up) * 1000000L + up;
        if (found < best[toX][toY]) {
            best[toX][toY] = found;
            return true;
        }
        return false;
    }

    int cost(int from, int to) {
        index(isControl(from) && isControl(to));
        Leg leg = route(from, to, false);
        return leg == null ? -1 : leg.cost;
    }

    int costByCells(int from, int to) {
        return cost(from, to);
    }

    int climb(int from, int to) {
        index(isControl(from) && isControl(to));
        Leg leg = route(from, to, false);
        return leg == null ? -1 : leg.climb;
    }

    boolean tempts(int from, int to) {
        int cost = cost(from, to);
        return from != to && (cost == -1 || route(from, to, true).cost < cost);
    }

    int courseAt(int klass, int index) {
        index(in(klass, 0, 4) && in(index, 0, courses.get(klass).size() - 1));
        return courses.get(klass).get(index);
    }

    /** Null if there are no legs, or one has no route. */
    private Leg legs(List<Integer> course) {
        Leg sum = course.size() < 2 ? null : new Leg(0, 0);
        for (int at = 0; at + 1 < course.size() && sum != null; at++) {
            Leg leg = route(course.get(at), course.get(at + 1), false);
            sum = leg == null ? null : new Leg(sum.cost + leg.cost, sum.climb + leg.climb);
        }
        return sum;
    }

    int courseClimb(int klass) {
        index(in(klass, 0, 4));
        Leg legs = legs(courses.get(klass));
        return legs == null ? -1 : legs.climb;
    }

    int courseCost(int klass) {
        index(in(klass, 0, 4));
        Leg legs = legs(courses.get(klass));
        return legs == null ? -1 : legs.cost;
    }

    int spread() {
        List<Integer> climbs = new ArrayList<>();
        for (List<Integer> course : courses) {
            Leg legs = legs(course);
            if (legs != null) {
                climbs.add(legs.climb);
            }
        }
        return climbs.isEmpty() ? 0 : Collections.max(climbs) - Collections.min(climbs);
    }

    int runners() {
        return runners.size();
    }

    private void known(int runner) {
        index(in(runner, 0, runners.size() - 1));
    }

    private List<Integer> courseOf(int runner) {
        return courses.get(runners.get(runner).klass);
    }

    int startOf(int runner) {
        known(runner);
        return starts.getOrDefault(runner, -1);
    }

    /** The controls that are to be punched, in their order. */
    private List<Integer> wanted(int runner) {
        List<Integer> course = courseOf(runner);
        List<Integer> wanted = new ArrayList<>(course.subList(1, course.size()));
        wanted.removeAll(failed);
        return wanted;
    }

    /** The minutes of the punches that count, by their controls. */
    private Map<Integer, Integer> counting(int runner) {
        List<Integer> wanted = wanted(runner);
        Map<Integer, Integer> counting = new HashMap<>();
        for (int[] punch : runners.get(runner).punches) {
            if (!wanted.isEmpty() && wanted.get(0) == punch[0]) {
                counting.put(punch[0], punch[1]);
                wanted.remove(0);
            }
        }
        return counting;
    }

    int stateOf(int runner) {
        known(runner);
        if (counting(runner).size() == wanted(runner).size()) {
            return 1;
        }
        List<Integer> course = courseOf(runner);
        for (int[] punch : runners.get(runner).punches) {
            if (punch[0] == course.get(course.size() - 1)) {
                return 2;
            }
        }
        return 0;
    }

    int split(int runner, int leg) {
        known(runner);
        List<Integer> course = courseOf(runner);
        index(in(leg, 0, course.size() - 2));
        if (failed.contains(course.get(leg)) || failed.contains(course.get(leg + 1))) {
            return -1;
        }
        Map<Integer, Integer> counting = counting(runner);
        Integer begun = leg == 0 ? starts.get(runner) : counting.get(course.get(leg));
        Integer ended = counting.get(course.get(leg + 1));
        return begun == null || ended == null ? -1 : ended - begun;
    }

    int total(int runner) {
        known(runner);
        int total = 0;
        for (int leg = 0; leg + 1 < courseOf(runner).size(); leg++) {
            total += Math.max(0, split(runner, leg));
        }
        return stateOf(runner) == 1 ? total : -1;
    }

    int rank(int runner) {
        known(runner);
        int rank = 1;
        for (int other = 0; other < runners.size(); other++) {
            boolean rival = runners.get(other).klass == runners.get(runner).klass && stateOf(other) == 1;
            rank += rival && total(other) < total(runner) ? 1 : 0;
        }
        return stateOf(runner) == 1 ? rank : -1;
    }

    private int best(int from, int to) {
        int best = Integer.MAX_VALUE;
        for (int runner = 0; runner < runners.size(); runner++) {
            List<Integer> course = courseOf(runner);
            for (int leg = 0; leg + 1 < course.size() && stateOf(runner) == 1; leg++) {
                if (course.get(leg) == from && course.get(leg + 1) == to && split(runner, leg) != -1) {
                    best = Math.min(best, split(runner, leg));
                }
            }
        }
        return best;
    }

    int lost(int runner, int leg) {
        known(runner);
        List<Integer> course = courseOf(runner);
        index(in(leg, 0, course.size() - 2));
        if (stateOf(runner) != 1 || split(runner, leg) == -1) {
            return -1;
        }
        long together = 0;
        for (int at = 0; at + 1 < course.size(); at++) {
            together += split(runner, at) == -1 ? 0 : best(course.get(at), course.get(at + 1));
        }
        long pace = together == 0 ? 1000 : 1000L * total(runner) / together;
        long due = best(course.get(leg), course.get(leg + 1)) * pace / 1000;
        return (int) Math.max(0, split(runner, leg) - due);
    }
}
