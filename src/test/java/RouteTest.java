/** Promises 5 and 16 to 19: control, cost, costByCells, climb, tempts. */
final class RouteTest {
    private static final Check check = new Check();

    public static void main(String[] args) {
        control();
        controlRefuses();
        grounds();
        climbs();
        detours();
        leastClimbOfSeveral();
        forbidden();
        noRoute();
        temptsByJustLess();
        aSnake();
        eachAskStandsAlone();
        unknownControls();
        check.end("RouteTest");
    }

    private static void route(String what, Spurline club, int from, int to, int cost, int climb) {
        check.due(what + ": cost", club.cost(from, to), cost);
        check.due(what + ": costByCells", club.costByCells(from, to), cost);
        check.due(what + ": climb", club.climb(from, to), climb);
    }

    private static void control() {
        Spurline club = new Spurline(4, 3);
        for (int number = 0; number < 12; number++) {
            check.due("control " + number, club.control(number % 4, number / 4), number);
        }
        route("the first and the last", club, 0, 11, 50, 0);
    }

    private static void controlRefuses() {
        Spurline club = new Spurline(5, 3);
        check.refused("control x -1", Check.INDEX, () -> club.control(-1, 0));
        check.refused("control x 5", Check.INDEX, () -> club.control(5, 0));
        check.refused("control y -1", Check.INDEX, () -> club.control(0, -1));
        check.refused("control y 3", Check.INDEX, () -> club.control(0, 3));
        club.setGround(4, 0, 4, 0, 4);
        check.refused("control on forbidden ground", Check.STATE, () -> club.control(4, 0));
        club.setGround(4, 0, 4, 0, 3);
        check.due("control in a marsh", club.control(4, 0), 0);
        check.refused("control where one is", Check.STATE, () -> club.control(4, 0));
        for (int number = 1; number < 12; number++) {
            check.due("control " + number, club.control(number % 4, number / 4), number);
        }
        check.refused("control 12", Check.STATE, () -> club.control(0, 0));
        check.refused("no cell comes ahead of 12 controls", Check.INDEX, () -> club.control(5, 0));
    }

    private static void grounds() {
        int[] costs = {10, 12, 20, 40};
        for (int ground = 0; ground < 4; ground++) {
            Spurline club = new Spurline(3, 2);
            club.setGround(1, 0, 2, 1, ground);
            club.control(0, 0);
            club.control(1, 0);
            route("to ground " + ground, club, 0, 1, costs[ground], 0);
            route("from ground " + ground, club, 1, 0, 10, 0);
            check.isFalse("ground " + ground + " tempts", club.tempts(0, 1));
        }
    }

    private static void climbs() {
        Spurline club = new Spurline(2, 2);
        club.control(0, 0);
        club.control(1, 0);
        club.setHeight(1, 0, 5);
        route("up", club, 0, 1, 30, 5);
        route("down", club, 1, 0, 10, 0);
        club.setHeight(0, 0, 255);
        club.setHeight(1, 0, 0);
        route("far down", club, 0, 1, 10, 0);
        route("far up", club, 1, 0, 10 + 4 * 255, 255);
        route("to itself", club, 1, 1, 0, 0);
        check.isFalse("to itself tempts", club.tempts(1, 1));
    }

    private static void detours() {
        Spurline club = new Spurline(3, 3);
        club.control(0, 0);
        club.control(2, 0);
        club.setGround(1, 0, 1, 0, 3);
        route("around a marsh", club, 0, 1, 40, 0);
        club.setGround(1, 1, 1, 1, 2);
        route("through the marsh", club, 0, 1, 50, 0);
        club.setHeight(1, 0, 3);
        route("around again", club, 0, 1, 50, 0);
        check.isFalse("neither tempts", club.tempts(0, 1));
    }

    private static void leastClimbOfSeveral() {
        for (int row = 0; row < 2; row++) {
            Spurline club = new Spurline(3, 2);
            club.control(0, row);
            club.control(2, row);
            club.setHeight(1, row, 5);
            route("over the hill costs the same, row " + row, club, 0, 1, 40, 0);
            club.setHeight(1, row, 4);
            route("over the hill costs less, row " + row, club, 0, 1, 36, 4);
            club.setHeight(1, row, 6);
            route("over the hill costs more, row " + row, club, 0, 1, 40, 0);
        }
        for (int column = 0; column < 2; column++) {
            Spurline club = new Spurline(2, 3);
            club.control(column, 2);
            club.control(column, 0);
            club.setHeight(column, 1, 5);
            route("the same upwards, column " + column, club, 0, 1, 40, 0);
        }
    }

    private static void forbidden() {
        Spurline club = new Spurline(3, 2);
        club.control(0, 0);
        club.control(2, 0);
        club.setGround(1, 0, 1, 0, 4);
        route("around forbidden ground", club, 0, 1, 40, 0);
        check.isTrue("forbidden ground tempts", club.tempts(0, 1));
        club.setGround(0, 0, 0, 0, 4);
        route("away from forbidden ground", club, 0, 1, 40, 0);
        route("to forbidden ground", club, 1, 0, -1, -1);
        check.isTrue("to forbidden ground tempts", club.tempts(1, 0));
        route("forbidden, to itself", club, 0, 0, 0, 0);
        check.isFalse("forbidden, to itself tempts", club.tempts(0, 0));
    }

    private static void noRoute() {
        Spurline club = new Spurline(3, 3);
        club.control(0, 0);
        club.control(2, 2);
        club.setGround(1, 0, 1, 2, 4);
        route("behind a wall", club, 0, 1, -1, -1);
        route("behind a wall, back", club, 1, 0, -1, -1);
        check.isTrue("a wall tempts", club.tempts(0, 1));
        club.setHeight(1, 0, 255);
        club.setHeight(1, 1, 255);
        club.setHeight(1, 2, 255);
        check.isTrue("a high wall tempts as well", club.tempts(0, 1));
        club.setGround(1, 1, 1, 1, 0);
        route("through the wall", club, 0, 1, 40 + 4 * 255, 255);
        check.isFalse("an open wall does not", club.tempts(0, 1));
    }

    private static void temptsByJustLess() {
        Spurline club = new Spurline(3, 2);
        club.control(0, 0);
        club.control(2, 0);
        club.setGround(1, 0, 1, 0, 4);
        club.setHeight(1, 0, 5);
        check.isFalse("as dear over forbidden ground", club.tempts(0, 1));
        club.setHeight(1, 0, 4);
        check.isTrue("cheaper over forbidden ground", club.tempts(0, 1));
        club.setHeight(1, 0, 0);
        club.setGround(0, 1, 2, 1, 0);
        route("asking it changes no route", club, 0, 1, 40, 0);
    }

    /** The longest way that a map can ask for. */
    private static void aSnake() {
        Spurline club = new Spurline(12, 12);
        for (int y = 1; y < 12; y += 2) {
            int from = y % 4 == 1 ? 0 : 1;
            club.setGround(from, y, from + 10, y, 4);
        }
        club.control(0, 0);
        club.control(11, 10);
        club.control(0, 11);
        route("down the snake", club, 0, 1, 10 * 5 * (11 + 2), 0);
        route("up the snake", club, 1, 0, 10 * 5 * (11 + 2), 0);
        route("to its end", club, 0, 2, 10 * 5 * (11 + 2) + 10 * (11 + 1), 0);
        check.isTrue("a snake tempts", club.tempts(0, 1));
        for (int y = 0; y < 12; y++) {
            for (int x = y % 2; x < 12; x += 2) {
                club.setHeight(x, y, 255);
            }
        }
        route("over all tops", club, 0, 2, 10 * 77 + 4 * 255 * 38, 255 * 38);
    }

    private static void eachAskStandsAlone() {
        Spurline club = new Spurline(3, 3);
        club.control(0, 0);
        club.control(2, 0);
        check.due("costByCells asked first", club.costByCells(0, 1), 20);
        club.setGround(2, 0, 2, 0, 3);
        check.due("costByCells after a change", club.costByCells(0, 1), 50);
        club.setHeight(2, 0, 1);
        check.due("costByCells after another", club.costByCells(0, 1), 54);
        check.due("costByCells back", club.costByCells(1, 0), 20);
        club.setHeight(2, 0, 2);
        check.due("climb after a change", club.climb(0, 1), 2);
        club.setGround(2, 0, 2, 0, 4);
        check.due("cost after a change", club.cost(0, 1), -1);
        club.setGround(2, 0, 2, 0, 0);
        check.isFalse("tempts after a change", club.tempts(0, 1));
    }

    private static void unknownControls() {
        Spurline club = new Spurline(3, 3);
        check.refused("cost without controls", Check.INDEX, () -> club.cost(0, 0));
        club.control(0, 0);
        int[] wrong = {-1, 1, 12, Integer.MAX_VALUE, Integer.MIN_VALUE};
        for (int other : wrong) {
            check.refused("cost from " + other, Check.INDEX, () -> club.cost(other, 0));
            check.refused("cost to " + other, Check.INDEX, () -> club.cost(0, other));
            check.refused("costByCells from " + other, Check.INDEX, () -> club.costByCells(other, 0));
            check.refused("costByCells to " + other, Check.INDEX, () -> club.costByCells(0, other));
            check.refused("climb from " + other, Check.INDEX, () -> club.climb(other, 0));
            check.refused("climb to " + other, Check.INDEX, () -> club.climb(0, other));
            check.refused("tempts from " + other, Check.INDEX, () -> club.tempts(other, 0) ? 1 : 0);
            check.refused("tempts to " + other, Check.INDEX, () -> club.tempts(0, other) ? 1 : 0);
            check.refused("both " + other, Check.INDEX, () -> club.tempts(other, other) ? 1 : 0);
        }
    }
}
