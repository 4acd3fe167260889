/** Promises 1 to 4 and 12: a new object, setHeight, hill, setGround, cell. */
final class MapTest {
    private static final Check check = new Check();

    public static void main(String[] args) {
        newObject();
        sidesAreKeptWithinLimits();
        setHeight();
        setHeightRefuses();
        hill();
        hillAtTheEdges();
        hillRefuses();
        setGround();
        setGroundRefuses();
        cell();
        refusedCallsChangeNothing();
        check.end("MapTest");
    }

    private static void newObject() {
        Spurline club = new Spurline(5, 4);
        for (int y = 0; y < 4; y++) {
            for (int x = 0; x < 5; x++) {
                check.due("a new cell " + x + " " + y, club.cell(x, y), 0);
            }
        }
        check.due("runners of a new object", club.runners(), 0);
        check.refused("control 0 of a new object", Check.INDEX, () -> club.cost(0, 0));
        check.due("course of a new object", club.courseClimb(0), Spurline.NONE);
        Spurline other = new Spurline(5, 4);
        club.setHeight(0, 0, 7);
        check.due("objects are apart", other.cell(0, 0), 0);
    }

    private static void sidesAreKeptWithinLimits() {
        hasSides("2 x 2", new Spurline(2, 2), 2, 2);
        hasSides("12 x 12", new Spurline(12, 12), 12, 12);
        hasSides("3 x 11", new Spurline(3, 11), 3, 11);
        hasSides("1 x 13", new Spurline(1, 13), 2, 12);
        hasSides("13 x 1", new Spurline(13, 1), 12, 2);
        hasSides("least x most", new Spurline(Integer.MIN_VALUE, Integer.MAX_VALUE), 2, 12);
        hasSides("most x least", new Spurline(Integer.MAX_VALUE, Integer.MIN_VALUE), 12, 2);
    }

    private static void hasSides(String what, Spurline club, int width, int height) {
        check.due(what + " last cell", club.cell(width - 1, height - 1), 0);
        check.refused(what + " beyond the width", Check.INDEX, () -> club.cell(width, 0));
        check.refused(what + " beyond the height", Check.INDEX, () -> club.cell(0, height));
        check.due(what + " all cells take a ground", club.setGround(0, 0, width - 1, height - 1, 1), width * height);
    }

    private static void setHeight() {
        Spurline club = new Spurline(3, 2);
        check.due("setHeight first", club.setHeight(2, 1, 255), 0);
        check.due("setHeight second", club.setHeight(2, 1, 0), 255);
        check.due("setHeight third", club.setHeight(2, 1, 9), 0);
        check.due("setHeight same", club.setHeight(2, 1, 9), 9);
        check.due("cell after setHeight", club.cell(2, 1), 90);
        check.due("cell beside it", club.cell(1, 1), 0);
        check.due("cell above it", club.cell(2, 0), 0);
        club.setGround(2, 1, 2, 1, 3);
        check.due("setHeight keeps the ground", club.setHeight(2, 1, 4), 9);
        check.due("cell with ground", club.cell(2, 1), 43);
    }

    private static void setHeightRefuses() {
        Spurline club = new Spurline(3, 2);
        check.refused("setHeight x -1", Check.INDEX, () -> club.setHeight(-1, 0, 1));
        check.refused("setHeight x 3", Check.INDEX, () -> club.setHeight(3, 0, 1));
        check.refused("setHeight y -1", Check.INDEX, () -> club.setHeight(0, -1, 1));
        check.refused("setHeight y 2", Check.INDEX, () -> club.setHeight(0, 2, 1));
        check.refused("setHeight -1", Check.ARGUMENT, () -> club.setHeight(0, 0, -1));
        check.refused("setHeight 256", Check.ARGUMENT, () -> club.setHeight(0, 0, 256));
        check.refused("setHeight cell comes first", Check.INDEX, () -> club.setHeight(3, 0, 256));
        check.due("setHeight changed nothing", club.cell(0, 0), 0);
    }

    private static void hill() {
        Spurline club = new Spurline(5, 4);
        check.due("hill", club.hill(2, 1, 30, 10), 20);
        check.due("its top", club.cell(2, 1), 300);
        check.due("beside it", club.cell(3, 1), 200);
        check.due("across from it", club.cell(1, 2), 200);
        check.due("two away in x", club.cell(0, 1), 100);
        check.due("two away in y", club.cell(2, 3), 100);
        check.due("two away in both", club.cell(4, 3), 100);
        check.due("two and one away", club.cell(0, 0), 100);
        check.due("the same hill again", club.hill(2, 1, 30, 10), 0);
        check.due("a lower hill", club.hill(2, 1, 29, 9), 11);
        check.due("its top stays", club.cell(2, 1), 300);
        check.due("beside it stays", club.cell(3, 1), 200);
        check.due("two away rises by 1", club.cell(0, 0), 110);
    }

    private static void hillAtTheEdges() {
        Spurline club = new Spurline(12, 12);
        check.due("top 0 raises nothing", club.hill(0, 0, 0, 1), 0);
        check.due("fall 255 raises the top alone", club.hill(0, 0, 255, 255), 1);
        check.due("beside it", club.cell(1, 0), 0);
        check.due("fall ends at 0", club.hill(11, 11, 10, 5), 4);
        check.due("at 0", club.cell(9, 9), 0);
        check.due("not ahead of 0", club.cell(0, 11), 0);
        check.due("top 255, fall 1", club.hill(0, 11, 255, 1), 143);
        check.due("eleven away", club.cell(11, 0), 2440);
        club.setGround(0, 0, 11, 11, 2);
        check.due("hill keeps the ground", club.hill(0, 0, 255, 1), 11 + 10 + 9 + 8 + 7 + 6 - 1);
        check.due("ground under the hill", club.cell(1, 0), 2542);
    }

    private static void hillRefuses() {
        Spurline club = new Spurline(3, 2);
        check.refused("hill x", Check.INDEX, () -> club.hill(3, 0, 1, 1));
        check.refused("hill x -1", Check.INDEX, () -> club.hill(-1, 0, 1, 1));
        check.refused("hill y", Check.INDEX, () -> club.hill(0, 2, 1, 1));
        check.refused("hill y -1", Check.INDEX, () -> club.hill(0, -1, 1, 1));
        check.refused("hill top -1", Check.ARGUMENT, () -> club.hill(0, 0, -1, 1));
        check.refused("hill top 256", Check.ARGUMENT, () -> club.hill(0, 0, 256, 1));
        check.refused("hill fall 0", Check.ARGUMENT, () -> club.hill(0, 0, 1, 0));
        check.refused("hill fall 256", Check.ARGUMENT, () -> club.hill(0, 0, 1, 256));
        check.refused("hill cell comes first", Check.INDEX, () -> club.hill(3, 0, 256, 0));
        check.due("hill changed nothing", club.cell(0, 0), 0);
    }

    private static void setGround() {
        Spurline club = new Spurline(4, 3);
        check.due("setGround", club.setGround(1, 1, 2, 2, 3), 4);
        check.due("inside", club.cell(2, 1), 3);
        check.due("left of it", club.cell(0, 1), 0);
        check.due("right of it", club.cell(3, 2), 0);
        check.due("above it", club.cell(1, 0), 0);
        check.due("over it", club.setGround(0, 0, 3, 2, 3), 8);
        check.due("the same again", club.setGround(0, 0, 3, 2, 3), 0);
        check.due("one cell", club.setGround(3, 2, 3, 2, 4), 1);
        check.due("forbidden", club.cell(3, 2), 4);
        check.due("one row back to path", club.setGround(0, 1, 3, 1, 0), 4);
        check.due("one column", club.setGround(0, 0, 0, 2, 1), 3);
        club.setHeight(0, 0, 12);
        check.due("with height", club.cell(0, 0), 121);
        club.control(0, 0);
        check.due("ground under a control", club.setGround(0, 0, 0, 0, 4), 1);
    }

    private static void setGroundRefuses() {
        Spurline club = new Spurline(4, 3);
        check.refused("setGround x", Check.INDEX, () -> club.setGround(-1, 0, 1, 1, 1));
        check.refused("setGround y", Check.INDEX, () -> club.setGround(0, -1, 1, 1, 1));
        check.refused("setGround toX", Check.INDEX, () -> club.setGround(0, 0, 4, 1, 1));
        check.refused("setGround toY", Check.INDEX, () -> club.setGround(0, 0, 1, 3, 1));
        check.refused("setGround x beyond", Check.INDEX, () -> club.setGround(4, 0, 3, 2, 1));
        check.refused("setGround toX -1", Check.INDEX, () -> club.setGround(0, 0, -1, 2, 1));
        check.refused("setGround toX less", Check.ARGUMENT, () -> club.setGround(2, 0, 1, 2, 1));
        check.refused("setGround toY less", Check.ARGUMENT, () -> club.setGround(0, 2, 3, 1, 1));
        check.refused("setGround ground -1", Check.ARGUMENT, () -> club.setGround(0, 0, 1, 1, -1));
        check.refused("setGround ground 5", Check.ARGUMENT, () -> club.setGround(0, 0, 1, 1, 5));
        check.refused("setGround cells come first", Check.INDEX, () -> club.setGround(2, 0, 1, 3, 5));
        check.due("setGround changed nothing", club.cell(1, 1), 0);
    }

    private static void cell() {
        Spurline club = new Spurline(3, 2);
        club.setHeight(1, 1, 255);
        club.setGround(1, 1, 1, 1, 4);
        check.due("the greatest cell", club.cell(1, 1), 2554);
        check.refused("cell x -1", Check.INDEX, () -> club.cell(-1, 0));
        check.refused("cell x 3", Check.INDEX, () -> club.cell(3, 0));
        check.refused("cell y -1", Check.INDEX, () -> club.cell(0, -1));
        check.refused("cell y 2", Check.INDEX, () -> club.cell(0, 2));
        check.refused("cell far off", Check.INDEX, () -> club.cell(Integer.MAX_VALUE, Integer.MIN_VALUE));
    }

    private static void refusedCallsChangeNothing() {
        Spurline club = new Spurline(3, 3);
        club.hill(1, 1, 9, 2);
        check.refused("half a rectangle", Check.INDEX, () -> club.setGround(0, 0, 3, 0, 1));
        check.refused("a wrong fall", Check.ARGUMENT, () -> club.hill(0, 0, 99, 0));
        check.due("nothing changed", club.cell(0, 0), 70);
        check.due("nothing changed at the top", club.cell(1, 1), 90);
    }
}
