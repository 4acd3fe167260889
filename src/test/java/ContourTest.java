/** Promises 13 to 15: lines, rings, longest. */
final class ContourTest {
    private static final Check check = new Check();

    public static void main(String[] args) {
        flat();
        ringAroundOneCell();
        linesThatEndAtTheEdge();
        ringsWithinOneAnother();
        saddles();
        saddlesTheOtherWay();
        smallestMap();
        largestMap();
        levelsAreHeld();
        asksChangeNothing();
        eachAskStandsAlone();
        check.end("ContourTest");
    }

    private static void contours(String what, Spurline club, int level, int lines, int rings, int longest) {
        check.due(what + ": lines(" + level + ")", club.lines(level), lines);
        check.due(what + ": rings(" + level + ")", club.rings(level), rings);
        check.due(what + ": longest(" + level + ")", club.longest(level), longest);
    }

    private static void flat() {
        contours("flat and low", new Spurline(4, 4), 1, 0, 0, 0);
        Spurline club = new Spurline(4, 4);
        club.hill(0, 0, 255, 1);
        contours("all high", club, 1, 0, 0, 0);
    }

    private static void ringAroundOneCell() {
        Spurline club = new Spurline(3, 3);
        club.setHeight(1, 1, 10);
        contours("a top", club, 10, 1, 1, 4);
        contours("a top", club, 1, 1, 1, 4);
        contours("above the top", club, 11, 0, 0, 0);
        Spurline hollow = new Spurline(3, 3);
        hollow.hill(1, 1, 10, 1);
        hollow.setHeight(1, 1, 0);
        contours("a hollow", hollow, 9, 1, 1, 4);
    }

    private static void linesThatEndAtTheEdge() {
        Spurline corner = new Spurline(3, 3);
        corner.setHeight(0, 0, 10);
        contours("a corner", corner, 5, 1, 0, 2);
        Spurline side = new Spurline(3, 3);
        side.setHeight(1, 0, 10);
        contours("a side", side, 5, 1, 0, 3);
        Spurline left = new Spurline(3, 3);
        left.setHeight(0, 1, 10);
        contours("the left side", left, 5, 1, 0, 3);
        Spurline right = new Spurline(3, 3);
        right.setHeight(2, 1, 10);
        contours("the right side", right, 5, 1, 0, 3);
        Spurline below = new Spurline(3, 3);
        below.setHeight(1, 2, 10);
        contours("the lower side", below, 5, 1, 0, 3);
        Spurline across = new Spurline(5, 3);
        across.setHeight(2, 0, 10);
        across.setHeight(2, 1, 10);
        across.setHeight(2, 2, 10);
        contours("a ridge across", across, 10, 2, 0, 3);
    }

    private static void ringsWithinOneAnother() {
        Spurline club = new Spurline(5, 5);
        club.hill(2, 2, 20, 10);
        club.setHeight(2, 2, 0);
        contours("a wall around a hollow", club, 10, 2, 2, 12);
        club.setHeight(0, 0, 10);
        contours("the wall meets a corner", club, 5, 2, 1, 14);
        contours("the wall and the corner are apart", club, 10, 3, 2, 12);
    }

    private static void saddles() {
        Spurline club = new Spurline(3, 3);
        club.setHeight(0, 0, 10);
        club.setHeight(1, 1, 10);
        contours("together less than 4 levels", club, 10, 2, 1, 4);
        contours("together less than 4 levels", club, 6, 2, 1, 4);
        contours("together just 4 levels", club, 5, 1, 0, 6);
        contours("together more than 4 levels", club, 1, 1, 0, 6);
    }

    private static void saddlesTheOtherWay() {
        Spurline club = new Spurline(3, 3);
        club.setHeight(2, 0, 10);
        club.setHeight(1, 1, 10);
        contours("the other way, less", club, 6, 2, 1, 4);
        contours("the other way, just", club, 5, 1, 0, 6);
        Spurline hollow = new Spurline(3, 3);
        hollow.hill(1, 1, 8, 1);
        hollow.setHeight(0, 0, 0);
        hollow.setHeight(1, 1, 0);
        contours("two hollows, more", hollow, 3, 2, 1, 4);
        contours("two hollows, less", hollow, 4, 1, 0, 6);
    }

    private static void smallestMap() {
        Spurline club = new Spurline(2, 2);
        club.setHeight(0, 0, 10);
        contours("one of four", club, 10, 1, 0, 2);
        club.setHeight(1, 1, 10);
        contours("two across", club, 10, 2, 0, 2);
        contours("two across, low cells joined", club, 5, 2, 0, 2);
        club.setHeight(1, 0, 10);
        contours("three of four", club, 10, 1, 0, 2);
        club.setHeight(0, 1, 10);
        contours("four of four", club, 10, 0, 0, 0);
    }

    private static void largestMap() {
        Spurline club = new Spurline(12, 12);
        for (int cell = 0; cell < 144; cell++) {
            if ((cell % 12 + cell / 12) % 2 == 0) {
                club.setHeight(cell % 12, cell / 12, 2);
            }
        }
        // 100 inner cells; half of them are high, and each of these has a ring of its own at 2 ..
        contours("a board, highs apart", club, 2, 50 + 22, 50, 4);
        // .. and each low one at 1.
        contours("a board, lows apart", club, 1, 50 + 22, 50, 4);
    }

    private static void levelsAreHeld() {
        Spurline club = new Spurline(3, 3);
        club.setHeight(1, 1, 255);
        contours("the greatest level", club, 255, 1, 1, 4);
        contours("the least level", club, 1, 1, 1, 4);
        int[] wrong = {0, -1, 256, Integer.MIN_VALUE, Integer.MAX_VALUE};
        for (int level : wrong) {
            check.refused("lines " + level, Check.ARGUMENT, () -> club.lines(level));
            check.refused("rings " + level, Check.ARGUMENT, () -> club.rings(level));
            check.refused("longest " + level, Check.ARGUMENT, () -> club.longest(level));
        }
    }

    private static void asksChangeNothing() {
        Spurline club = new Spurline(3, 3);
        club.setHeight(1, 1, 10);
        club.setGround(0, 0, 2, 2, 4);
        contours("grounds make no lines", club, 10, 1, 1, 4);
        contours("asked again", club, 10, 1, 1, 4);
        check.due("the top stays", club.cell(1, 1), 104);
    }

    private static void eachAskStandsAlone() {
        Spurline club = new Spurline(5, 5);
        club.hill(2, 2, 20, 10);
        check.due("rings asked first", club.rings(20), 1);
        check.due("longest of another level", club.longest(10), 12);
        check.due("rings of a level without", club.rings(21), 0);
        check.due("longest of the top", club.longest(20), 4);
        club.setHeight(2, 1, 20);
        check.due("longest of a longer top", club.longest(20), 6);
        club.setHeight(2, 0, 20);
        check.due("rings of one that meets the edge", club.rings(20), 0);
    }
}
