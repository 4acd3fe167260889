/** The edges that promises 1 to 4 and 12 to 15 name: each check is told by its promise's number. */
final class MapEdgesTest {
    private static final Check check = new Check();
    private static final int[] SIDES = {Integer.MIN_VALUE, -1, 0, 1, 2, 3, 11, 12, 13, 24, Integer.MAX_VALUE};
    private static final int WIDTH = 5;
    private static final int HEIGHT = 4;

    public static void main(String[] args) {
        Unchanged clubs = new Unchanged(check, MapEdgesTest::hilly);
        sides();
        newObject();
        setHeight();
        setHeightRefused(clubs);
        hillTopsAndFalls();
        hillReach();
        hillRefused(clubs);
        setGroundRectangles();
        setGroundUnderControls();
        setGroundRefused(clubs);
        cell(clubs);
        levels();
        noLines();
        mostLines();
        longestLines();
        levelsRefused(clubs);
        check.end("MapEdgesTest");
    }

    private static Spurline hilly() {
        Spurline club = new Spurline(WIDTH, HEIGHT);
        club.hill(2, 1, 30, 10);
        club.setGround(1, 0, 1, 2, 3);
        club.control(0, 0);
        club.control(4, 3);
        return club;
    }

    private static void sides() {
        check.about(1);
        for (int width : SIDES) {
            int counted = width < 2 ? 2 : width > 12 ? 12 : width;
            Spurline club = new Spurline(width, 3);
            check.due("width " + width + ": the last column", club.cell(counted - 1, 2), 0);
            check.refused("width " + width + ": one beyond", Check.INDEX, () -> club.cell(counted, 0));
            check.due("width " + width + ": cells", club.setGround(0, 0, counted - 1, 2, 1), 3 * counted);
        }
        for (int height : SIDES) {
            int counted = height < 2 ? 2 : height > 12 ? 12 : height;
            Spurline club = new Spurline(3, height);
            check.due("height " + height + ": the last row", club.cell(2, counted - 1), 0);
            check.refused("height " + height + ": one beyond", Check.INDEX, () -> club.cell(0, counted));
            check.due("height " + height + ": cells", club.setGround(0, 0, 2, counted - 1, 1), 3 * counted);
        }
    }

    private static void newObject() {
        check.about(1);
        Spurline club = new Spurline(12, 12);
        for (int cell = 0; cell < 144; cell++) {
            check.due("low path in cell " + cell, club.cell(cell % 12, cell / 12), 0);
        }
        check.refused("no control 0", Check.INDEX, () -> club.cost(0, 0));
        check.refused("no runner 0", Check.INDEX, () -> club.stateOf(0));
        check.due("no runners", club.runners(), 0);
        for (int number = 0; number < 5; number++) {
            int klass = number;
            check.refused("no course of class " + klass, Check.INDEX, () -> club.courseAt(klass, 0));
        }
        check.due("the first control is 0", club.control(11, 11), 0);
    }

    private static void setHeight() {
        check.about(2);
        Spurline club = new Spurline(12, 12);
        check.due("the greatest height on the least", club.setHeight(0, 0, 255), 0);
        check.due("the least height on the greatest", club.setHeight(0, 0, 0), 255);
        check.due("the least height on the least", club.setHeight(0, 0, 0), 0);
        check.due("the last cell", club.setHeight(11, 11, 255), 0);
        check.due("the greatest height on the greatest", club.setHeight(11, 11, 255), 255);
        check.due("the last cell of the first row", club.setHeight(11, 0, 1), 0);
        check.due("the first cell of the last row", club.setHeight(0, 11, 2), 0);
        check.due("the first cell of the second row", club.setHeight(0, 1, 3), 0);
        check.due("which is another one", club.cell(11, 0), 10);
        check.due("than the last of the first row", club.cell(0, 1), 30);
    }

    private static void setHeightRefused(Unchanged clubs) {
        check.about(2);
        clubs.cellsBeyond("no such cell", WIDTH, HEIGHT, (club, x, y) -> club.setHeight(x, y, 1));
        clubs.cellsBeyond("no such cell ahead of the height", WIDTH, HEIGHT, (club, x, y) -> club.setHeight(x, y, 256));
        clubs.cellsBeyond("no such cell ahead of height -1", WIDTH, HEIGHT, (club, x, y) -> club.setHeight(x, y, -1));
        clubs.numbersBeyond("height", 0, 255, Check.ARGUMENT, (club, height) -> club.setHeight(4, 3, height));
    }

    private static void hillTopsAndFalls() {
        check.about(3);
        Spurline club = new Spurline(5, 5);
        check.due("the least top with the least fall", club.hill(2, 2, 0, 1), 0);
        check.due("top 1 with the least fall", club.hill(2, 2, 1, 1), 1);
        check.due("top 1 again: at least, not more", club.hill(2, 2, 1, 1), 0);
        check.due("the greatest top with the greatest fall", club.hill(0, 0, 255, 255), 1);
        check.due("falls to 0 beside it", club.cell(1, 1), 0);
        check.due("one less falls to 1", club.hill(0, 0, 255, 254), 3);
        check.due("beside it", club.cell(1, 1), 10);
        check.due("the greatest fall of a low top", club.hill(4, 4, 1, 255), 1);
        check.due("nothing gets below 0", club.cell(4, 3), 0);
        check.due("nor above it", club.cell(0, 4), 0);
        check.due("the greatest top with the least fall", club.hill(2, 2, 255, 1), 24);
        check.due("but for the other top, all", club.cell(0, 0), 2550);
        check.due("two away", club.cell(4, 4), 2530);
    }

    private static void hillReach() {
        check.about(3);
        Spurline club = new Spurline(12, 12);
        check.due("a cell eleven away rises", club.hill(0, 0, 12, 1), 144);
        check.due("by 1", club.cell(11, 11), 10);
        check.due("in its row", club.cell(11, 0), 10);
        check.due("in its column", club.cell(0, 11), 10);
        Spurline other = new Spurline(12, 12);
        check.due("a cell eleven away that gets 0 does not rise", other.hill(11, 11, 11, 1), 121);
        check.due("ten away", other.cell(1, 1), 10);
        check.due("eleven away", other.cell(0, 0), 0);
        check.due("as high as it is: none rises", other.hill(11, 11, 11, 1), 0);
        check.due("one higher: all rise", other.hill(11, 11, 12, 1), 144);
    }

    private static void hillRefused(Unchanged clubs) {
        check.about(3);
        clubs.cellsBeyond("no such cell", WIDTH, HEIGHT, (club, x, y) -> club.hill(x, y, 255, 1));
        clubs.cellsBeyond("no such cell ahead of the top", WIDTH, HEIGHT, (club, x, y) -> club.hill(x, y, 256, 1));
        clubs.cellsBeyond("no such cell ahead of the fall", WIDTH, HEIGHT, (club, x, y) -> club.hill(x, y, 255, 0));
        clubs.numbersBeyond("top", 0, 255, Check.ARGUMENT, (club, top) -> club.hill(2, 1, top, 1));
        clubs.numbersBeyond("fall", 1, 255, Check.ARGUMENT, (club, fall) -> club.hill(2, 1, 255, fall));
    }

    private static void setGroundRectangles() {
        check.about(4);
        Spurline club = new Spurline(12, 12);
        for (int ground = 1; ground <= 4; ground++) {
            check.due("all cells, ground " + ground, club.setGround(0, 0, 11, 11, ground), 144);
            check.due("the last one has it", club.cell(11, 11), ground);
            check.due("all have it: none had another one", club.setGround(0, 0, 11, 11, ground), 0);
        }
        check.due("the least ground", club.setGround(0, 0, 11, 11, 0), 144);
        check.due("toX is x and toY is y: the first cell", club.setGround(0, 0, 0, 0, 4), 1);
        check.due("toX is x and toY is y: the last cell", club.setGround(11, 11, 11, 11, 4), 1);
        check.due("toX is x: a column", club.setGround(0, 0, 0, 11, 1), 12);
        check.due("toY is y: a row", club.setGround(0, 0, 11, 0, 1), 11);
        check.due("beside both", club.cell(1, 1), 0);
        check.due("the last cell of the row", club.cell(11, 0), 1);
        check.due("the last cell of the column", club.cell(0, 11), 1);
        check.due("all but those", club.setGround(0, 0, 11, 11, 1), 144 - 23);
    }

    private static void setGroundUnderControls() {
        check.about(4);
        Spurline club = hilly();
        check.due("forbidden ground under a control", club.setGround(4, 3, 4, 3, 4), 1);
        check.due("one cannot go to it then", club.cost(0, 1), Spurline.NONE);
        check.due("but away from it", club.cost(1, 0), 70);
        check.due("under all", club.setGround(0, 0, 4, 3, 4), 19);
        check.due("no way back", club.cost(1, 0), Spurline.NONE);
        club.setGround(0, 0, 4, 3, 0);
        check.due("a way again", club.cost(0, 1), 70);
    }

    private static void setGroundRefused(Unchanged clubs) {
        check.about(4);
        clubs.cellsBeyond("no such first corner", WIDTH, HEIGHT, (club, x, y) -> club.setGround(x, y, 4, 3, 1));
        clubs.cellsBeyond("no such last corner", WIDTH, HEIGHT, (club, x, y) -> club.setGround(0, 0, x, y, 1));
        clubs.cellsBeyond("neither corner", WIDTH, HEIGHT, (club, x, y) -> club.setGround(x, y, x, y, 1));
        clubs.cellsBeyond("no such last corner ahead of toX and toY", WIDTH, HEIGHT,
                (club, x, y) -> club.setGround(4, 3, x, y, 1));
        clubs.cellsBeyond("no such first corner ahead of toX and toY", WIDTH, HEIGHT,
                (club, x, y) -> club.setGround(x, y, 0, 0, 1));
        clubs.cellsBeyond("no such first corner ahead of the ground", WIDTH, HEIGHT,
                (club, x, y) -> club.setGround(x, y, 4, 3, 5));
        clubs.cellsBeyond("no such last corner ahead of the ground", WIDTH, HEIGHT,
                (club, x, y) -> club.setGround(0, 0, x, y, -1));
        clubs.refused("toX one less than x", Check.ARGUMENT, club -> club.setGround(3, 0, 2, 3, 1));
        clubs.refused("toX 0 less than x", Check.ARGUMENT, club -> club.setGround(1, 1, 0, 1, 1));
        clubs.refused("toY one less than y", Check.ARGUMENT, club -> club.setGround(0, 3, 4, 2, 1));
        clubs.refused("toY 0 less than y", Check.ARGUMENT, club -> club.setGround(1, 1, 1, 0, 1));
        clubs.refused("toX and toY less", Check.ARGUMENT, club -> club.setGround(4, 3, 0, 0, 1));
        clubs.numbersBeyond("ground", 0, 4, Check.ARGUMENT, (club, ground) -> club.setGround(0, 0, 4, 3, ground));
    }

    private static void cell(Unchanged clubs) {
        check.about(12);
        Spurline club = new Spurline(12, 12);
        check.due("the least cell", club.cell(11, 11), 0);
        club.setGround(11, 11, 11, 11, 4);
        check.due("the least height with the greatest ground", club.cell(11, 11), 4);
        club.setHeight(11, 11, 255);
        check.due("the greatest cell", club.cell(11, 11), 2554);
        club.setGround(11, 11, 11, 11, 0);
        check.due("the greatest height with the least ground", club.cell(11, 11), 2550);
        clubs.cellsBeyond("no such cell", WIDTH, HEIGHT, (other, x, y) -> other.cell(x, y));
    }

    private static void isLines(String what, Spurline club, int level, int lines, int rings, int longest) {
        check.about(13);
        check.due(what + ": lines(" + level + ")", club.lines(level), lines);
        check.about(14);
        check.due(what + ": rings(" + level + ")", club.rings(level), rings);
        check.about(15);
        check.due(what + ": longest(" + level + ")", club.longest(level), longest);
    }

    private static void levels() {
        Spurline club = new Spurline(3, 3);
        club.setHeight(1, 1, 1);
        isLines("height 1 at the least level", club, 1, 1, 1, 4);
        isLines("height 1 at one more", club, 2, 0, 0, 0);
        club.setHeight(1, 1, 254);
        isLines("height 254 at its own level", club, 254, 1, 1, 4);
        isLines("height 254 at the greatest level", club, 255, 0, 0, 0);
        club.setHeight(1, 1, 255);
        isLines("height 255 at the greatest level", club, 255, 1, 1, 4);
    }

    private static void noLines() {
        isLines("all cells low", new Spurline(2, 2), 1, 0, 0, 0);
        isLines("all cells low, the greatest level", new Spurline(12, 12), 255, 0, 0, 0);
        Spurline club = new Spurline(12, 12);
        club.hill(0, 0, 255, 1);
        isLines("all cells high", club, 244, 0, 0, 0);
        isLines("all but the last ones", club, 245, 1, 0, 22);
        isLines("the top alone", club, 255, 1, 0, 2);
    }

    private static void mostLines() {
        Spurline club = new Spurline(12, 12);
        for (int cell = 0; cell < 144; cell++) {
            club.setHeight(cell % 12, cell / 12, (cell % 12 + cell / 12) % 2 * 255);
        }
        // A gap between any two cells: each of 50 inner cells has a ring, the others 22 ends at the edge.
        isLines("a board, high cells apart", club, 255, 72, 50, 4);
        isLines("a board, just below 4 levels together", club, 128, 72, 50, 4);
        isLines("a board, low cells apart", club, 127, 72, 50, 4);
        isLines("a board, the least level", club, 1, 72, 50, 4);
        Spurline narrow = new Spurline(2, 12);
        for (int y = 1; y < 12; y += 2) {
            narrow.hill(y / 2 % 2, y, 9, 255);
        }
        isLines("each gap beside the edge", narrow, 9, 6, 0, 3);
    }

    /** A comb that hangs from a beam, its teeth in each second column. */
    private static void comb(Spurline club, int from, int to, int lastTooth) {
        for (int x = from; x <= to; x++) {
            club.setHeight(x, from, 255);
        }
        for (int x = from; x <= to; x += 2) {
            for (int y = from; y <= lastTooth; y++) {
                club.setHeight(x, y, 255);
            }
        }
    }

    private static void longestLines() {
        Spurline open = new Spurline(12, 12);
        comb(open, 0, 11, 10);
        // Five bays of 21 gaps, half a bay of 11, and the ends of six teeth.
        isLines("a comb from edge to edge", open, 255, 1, 0, 5 * 21 + 11 + 6);
        Spurline parted = new Spurline(12, 12);
        comb(parted, 0, 11, 11);
        isLines("a comb down to the edge", parted, 255, 6, 0, 23);
        Spurline ring = new Spurline(12, 12);
        comb(ring, 1, 10, 10);
        // 55 cells in a tree of 54 sides in common.
        isLines("a comb off the edge", ring, 255, 1, 1, 4 * 55 - 2 * 54);
    }

    private static void levelsRefused(Unchanged clubs) {
        check.about(13);
        clubs.numbersBeyond("level", 1, 255, Check.ARGUMENT, (club, level) -> club.lines(level));
        clubs.refused("level -1", Check.ARGUMENT, club -> club.lines(-1));
        check.about(14);
        clubs.numbersBeyond("level", 1, 255, Check.ARGUMENT, (club, level) -> club.rings(level));
        clubs.refused("level -1", Check.ARGUMENT, club -> club.rings(-1));
        check.about(15);
        clubs.numbersBeyond("level", 1, 255, Check.ARGUMENT, (club, level) -> club.longest(level));
        clubs.refused("level -1", Check.ARGUMENT, club -> club.longest(-1));
    }
}
