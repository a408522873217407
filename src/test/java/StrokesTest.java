/** Promises 1 to 11: the pen, THE LINE, THE SHEET and INK. */
public final class StrokesTest {
    private static final Checks checks = new Checks("StrokesTest");

    public static void main(String[] args) {
        newObject();
        nib();
        ofNib();
        point();
        drop();
        lift();
        undo();
        ofStroke();
        place();
        inkOfOnePoint();
        inkOfOneStep();
        inkAlongTheNib();
        inkAtTheEdges();
        inkOfSeveral();
        area();
        checks.end();
    }

    private static void newObject() {
        NibLetters x = new NibLetters();
        for (int what = 0; what <= 4; what++) {
            checks.due("new, many(" + what + ")", x.many(what), 0);
        }
        checks.due("new, many(5)", x.many(5), 4);
        checks.due("new, area(-1)", x.area(-1), 0);
        checks.due("new, name(0)", x.name(0), NibLetters.NONE);
        checks.due("new, spoil", x.spoil(), NibLetters.NONE);
        NibLetters y = new NibLetters();
        x.point(1, 1);
        x.lift();
        x.nib(1, 1);
        x.limit(9);
        checks.due("another object has its own sheet", y.many(1), 0);
        checks.due("another object has its own nib", y.ofNib(0), 2);
        checks.due("another object has its own limit", y.many(5), 4);
    }

    private static void nib() {
        NibLetters x = new NibLetters();
        checks.due("nib(0, -6)", x.nib(0, -6), 1);
        checks.due("nib(6, 6)", x.nib(6, 6), 1);
        checks.due("nib(-1, 0)", x.nib(-1, 0), NibLetters.OUTSIDE);
        checks.due("nib(7, 0)", x.nib(7, 0), NibLetters.OUTSIDE);
        checks.due("nib(0, -7)", x.nib(0, -7), NibLetters.OUTSIDE);
        checks.due("nib(0, 7)", x.nib(0, 7), NibLetters.OUTSIDE);
        checks.due("nib(MAX, MIN)", x.nib(Integer.MAX_VALUE, Integer.MIN_VALUE), NibLetters.OUTSIDE);
        checks.due("nib(0, 0)", x.nib(0, 0), NibLetters.STATE);
        checks.due("u after refusals", x.ofNib(0), 6);
        checks.due("v after refusals", x.ofNib(1), 6);
        x.nib(0, 3);
        Checks.stroke(x, 9, 9);
        x.nib(4, 0);
        checks.due("u of a stroke stays", x.ofStroke(0, 1), 0);
        checks.due("v of a stroke stays", x.ofStroke(0, 2), 3);
        checks.due("ink of a stroke stays", x.area(0), 7);
    }

    private static void ofNib() {
        NibLetters x = new NibLetters();
        checks.due("ofNib(0)", x.ofNib(0), 2);
        checks.due("ofNib(1)", x.ofNib(1), -2);
        x.nib(5, -3);
        checks.due("ofNib(0) after nib", x.ofNib(0), 5);
        checks.due("ofNib(1) after nib", x.ofNib(1), -3);
        checks.due("ofNib(2)", x.ofNib(2), NibLetters.OUTSIDE);
        checks.due("ofNib(-1)", x.ofNib(-1), NibLetters.OUTSIDE);
    }

    private static void point() {
        NibLetters x = new NibLetters();
        checks.due("point(0, 0)", x.point(0, 0), 1);
        checks.due("the same as the first", x.point(0, 0), NibLetters.STATE);
        checks.due("point(31, 31)", x.point(31, 31), 2);
        checks.due("the same", x.point(31, 31), NibLetters.STATE);
        checks.due("the same x", x.point(31, 0), 3);
        checks.due("the same y", x.point(0, 0), 4);
        int[][] outside = {{-1, 0}, {32, 0}, {0, -1}, {0, 32}, {Integer.MIN_VALUE, 1}, {1, Integer.MAX_VALUE}};
        for (int[] at : outside) {
            checks.due("point off the field", x.point(at[0], at[1]), NibLetters.OUTSIDE);
        }
        for (int i = 5; i <= 8; i++) {
            checks.due("point " + i, x.point(i, i), i);
        }
        checks.due("the same when full", x.point(8, 8), NibLetters.STATE);
        checks.due("another when full", x.point(9, 8), NibLetters.FULL);
        checks.due("outside when full", x.point(32, 8), NibLetters.OUTSIDE);
        checks.due("points", x.many(0), 8);
        x.lift();
        checks.due("the last point of a lifted line", x.point(8, 8), 1);
    }

    private static void drop() {
        NibLetters x = new NibLetters();
        checks.due("drop of nothing", x.drop(), 0);
        x.point(3, 3);
        x.point(4, 4);
        checks.due("drop of two", x.drop(), 2);
        checks.due("points after drop", x.many(0), 0);
        checks.due("the point that was dropped", x.point(4, 4), 1);
        checks.due("drop makes no stroke", x.many(1), 0);
    }

    private static void lift() {
        NibLetters x = new NibLetters();
        checks.due("lift of nothing", x.lift(), NibLetters.STATE);
        for (int k = 0; k < 6; k++) {
            x.point(k, k);
            checks.due("lift", x.lift(), k);
            checks.due("points after lift", x.many(0), 0);
            checks.due("strokes after lift", x.many(1), k + 1);
        }
        checks.due("lift of nothing when full", x.lift(), NibLetters.STATE);
        x.point(7, 7);
        checks.due("lift when full", x.lift(), NibLetters.FULL);
        checks.due("the line stays", x.many(0), 1);
        x.undo();
        x.nib(1, 4);
        checks.due("lift after undo", x.lift(), 5);
        checks.due("u as it is when lifted", x.ofStroke(5, 1), 1);
        checks.due("v as it is when lifted", x.ofStroke(5, 2), 4);
    }

    private static void undo() {
        NibLetters x = new NibLetters();
        checks.due("undo of nothing", x.undo(), NibLetters.STATE);
        Checks.stroke(x, 1, 1);
        Checks.stroke(x, 20, 20, 25, 20);
        x.point(5, 5);
        checks.due("undo", x.undo(), 1);
        checks.due("the last one is gone", x.ofStroke(1, 0), NibLetters.UNKNOWN);
        checks.due("the first one stays", x.place(0, 0, 0), 1);
        checks.due("the ink is gone", x.ink(-1, 20), 0);
        checks.due("the line stays", x.many(0), 1);
        checks.due("undo of the last", x.undo(), 0);
        checks.due("undo once more", x.undo(), NibLetters.STATE);
    }

    private static void ofStroke() {
        NibLetters x = new NibLetters();
        x.nib(3, 0);
        Checks.stroke(x, 10, 4, 10, 8, 10, 12, 14, 12, 10, 12, 10, 4);
        checks.due("points", x.ofStroke(0, 0), 6);
        checks.due("u", x.ofStroke(0, 1), 3);
        checks.due("v", x.ofStroke(0, 2), 0);
        checks.due("full full hair hair full", x.ofStroke(0, 3), 3);
        checks.due("up and full", x.ofStroke(0, 4), 1);
        x.limit(7);
        checks.due("thin thin hair hair thin", x.ofStroke(0, 3), 3);
        checks.due("down and thin", x.ofStroke(0, 4), 2);
        Checks.stroke(x, 2, 2);
        checks.due("sorts of one point", x.ofStroke(1, 3), 0);
        checks.due("wrong of one point", x.ofStroke(1, 4), 0);
        checks.due("no such stroke", x.ofStroke(2, 0), NibLetters.UNKNOWN);
        checks.due("stroke -1", x.ofStroke(-1, 0), NibLetters.UNKNOWN);
        checks.due("no such stroke, and outside", x.ofStroke(6, 9), NibLetters.UNKNOWN);
        checks.due("outside 5", x.ofStroke(0, 5), NibLetters.OUTSIDE);
        checks.due("outside -1", x.ofStroke(0, -1), NibLetters.OUTSIDE);
    }

    private static void place() {
        NibLetters x = new NibLetters();
        Checks.stroke(x, 1, 2, 3, 4, 5, 6);
        for (int i = 0; i < 3; i++) {
            checks.due("x of point " + i, x.place(0, i, 0), 2 * i + 1);
            checks.due("y of point " + i, x.place(0, i, 1), 2 * i + 2);
        }
        checks.due("no such point", x.place(0, 3, 0), NibLetters.UNKNOWN);
        checks.due("point -1", x.place(0, -1, 0), NibLetters.UNKNOWN);
        checks.due("no such point, and outside", x.place(0, 3, 2), NibLetters.UNKNOWN);
        checks.due("no such stroke", x.place(1, 0, 0), NibLetters.UNKNOWN);
        checks.due("stroke -1", x.place(-1, 0, 0), NibLetters.UNKNOWN);
        checks.due("outside 2", x.place(0, 0, 2), NibLetters.OUTSIDE);
        checks.due("outside -1", x.place(0, 0, -1), NibLetters.OUTSIDE);
    }

    private static void inkOfOnePoint() {
        NibLetters x = new NibLetters();
        x.nib(3, 2);
        Checks.stroke(x, 10, 10);
        checks.due("nib (3, 2) has places at its ends and midst alone", Checks.picture(x, 0, 6, 7, 14, 13), Checks.lines(
                ".........",
                ".#.......",
                ".........",
                "....#....",
                ".........",
                ".......#.",
                "........."));
        x.nib(4, -2);
        Checks.stroke(x, 10, 10);
        checks.due("nib (4, -2) has places between", Checks.picture(x, 1, 5, 7, 15, 13), Checks.lines(
                "...........",
                ".........#.",
                ".......#...",
                ".....#.....",
                "...#.......",
                ".#.........",
                "..........."));
        x.nib(0, -1);
        Checks.stroke(x, 10, 10);
        checks.due("nib (0, -1)", Checks.picture(x, 2, 9, 8, 11, 12), Checks.lines("...", ".#.", ".#.", ".#.", "..."));
    }

    private static void inkOfOneStep() {
        NibLetters x = new NibLetters();
        Checks.stroke(x, 8, 4, 8, 6);
        checks.due("down with nib (2, -2)", Checks.picture(x, 0, 5, 1, 11, 9), Checks.lines(
                ".......",
                ".....#.",
                "....##.",
                "...###.",
                "..###..",
                ".###...",
                ".##....",
                ".#.....",
                "......."));
        x.nib(1, 0);
        Checks.stroke(x, 12, 14, 10, 10);
        checks.due("a slanted step, upwards", Checks.picture(x, 1, 8, 9, 14, 15), Checks.lines(
                ".......",
                ".###...",
                "..##...",
                "..###..",
                "...##..",
                "...###.",
                "......."));
        x.nib(0, 1);
        Checks.stroke(x, 10, 10, 12, 11);
        checks.due("the midst at no place", Checks.picture(x, 2, 9, 8, 13, 13), Checks.lines(
                ".....",
                ".#...",
                ".###.",
                ".###.",
                "...#.",
                "....."));
    }

    private static void inkAlongTheNib() {
        NibLetters x = new NibLetters();
        x.nib(2, 0);
        Checks.stroke(x, 10, 5, 8, 5);
        checks.due("to the left along the nib", Checks.picture(x, 0, 5, 4, 13, 6), Checks.lines(
                ".........",
                ".#######.",
                "........."));
        x.nib(3, 2);
        Checks.stroke(x, 10, 10, 16, 14);
        checks.due("along (3, 2): five places", x.area(1), 5);
        checks.due("its first place", x.ink(1, 8), 1L << 7);
        checks.due("its last place", x.ink(1, 16), 1L << 19);
        x.nib(2, 2);
        Checks.stroke(x, 10, 10, 11, 11);
        checks.due("along (2, 2) with a step of (1, 1)", x.area(2), 6);
        x.nib(6, -3);
        Checks.stroke(x, 16, 16, 14, 17);
        checks.due("along (6, -3) with a step of (-2, 1)", x.area(3), 8);
        checks.due("its end", x.ink(3, 20), 1L << 8);
    }

    private static void inkAtTheEdges() {
        NibLetters x = new NibLetters();
        Checks.stroke(x, 0, 0);
        checks.due("a corner, across", x.area(0), 1);
        checks.due("row 0", x.ink(0, 0), 1);
        x.nib(2, 2);
        Checks.stroke(x, 31, 31);
        checks.due("a corner, inwards", x.area(1), 3);
        checks.due("row 31 has no sign", x.ink(1, 31), 2147483648L);
        x.nib(0, 6);
        Checks.stroke(x, 0, 0, 31, 0);
        checks.due("the upper edge", x.area(2), 32 * 7);
        checks.due("a whole row", x.ink(2, 6), 4294967295L);
        checks.due("the row below", x.ink(2, 7), 0);
        checks.due("y -1", x.ink(0, -1), NibLetters.OUTSIDE);
        checks.due("y 32", x.ink(0, 32), NibLetters.OUTSIDE);
        checks.due("y 32 of all", x.ink(-1, 32), NibLetters.OUTSIDE);
        checks.due("no such stroke", x.ink(3, 0), NibLetters.UNKNOWN);
        checks.due("no such stroke, and outside", x.ink(-2, 99), NibLetters.UNKNOWN);
    }

    private static void inkOfSeveral() {
        NibLetters x = new NibLetters();
        checks.due("all of an empty sheet", x.ink(-1, 5), 0);
        x.nib(1, 0);
        Checks.stroke(x, 4, 5, 6, 5, 6, 7);
        checks.due("two steps", Checks.picture(x, 0, 2, 4, 9, 8), Checks.lines(
                "........",
                ".#####..",
                "...###..",
                "...###..",
                "........"));
        Checks.stroke(x, 8, 5);
        checks.due("two strokes", x.ink(-1, 5), 0b1111111000);
        checks.due("the second one alone", x.ink(1, 5), 0b1110000000);
        x.point(20, 5);
        checks.due("a line that is not lifted has no ink", x.ink(-1, 5), 0b1111111000);
    }

    private static void area() {
        NibLetters x = new NibLetters();
        checks.due("area of an empty sheet", x.area(-1), 0);
        checks.due("area of no stroke", x.area(0), NibLetters.UNKNOWN);
        x.nib(1, 0);
        Checks.stroke(x, 4, 5, 8, 5);
        Checks.stroke(x, 8, 5);
        checks.due("area of a step", x.area(0), 7);
        checks.due("area of a point", x.area(1), 3);
        checks.due("area of both counts a place once", x.area(-1), 7);
        checks.due("area(2)", x.area(2), NibLetters.UNKNOWN);
        checks.due("area(-2)", x.area(-2), NibLetters.UNKNOWN);
    }
}
