/** Promises 16 and 17: how strokes join, PIECES and COUNTERS. */
public final class JoinsTest {
    private static final Checks checks = new Checks("JoinsTest");

    public static void main(String[] args) {
        join();
        joinByEnds();
        joinByAnEndInInk();
        pieces();
        piecesByCorners();
        counters();
        countersAtTheEdges();
        everyPlaceInked();
        checks.end();
    }

    private static void both(NibLetters x, String told, int k, int l, int want) {
        checks.due(told, x.join(k, l), want);
        checks.due(told + ", the other way round", x.join(l, k), want);
    }

    private static void join() {
        NibLetters x = new NibLetters();
        x.nib(1, 0);
        Checks.stroke(x, 4, 10, 20, 10);
        Checks.stroke(x, 12, 4, 12, 16);
        Checks.stroke(x, 21, 10, 21, 4);
        Checks.stroke(x, 12, 16, 20, 16);
        Checks.stroke(x, 4, 20, 8, 20, 10, 24);
        Checks.stroke(x, 8, 20);
        both(x, "they cross", 0, 1, 1);
        both(x, "an end in the ink", 0, 2, 2);
        both(x, "a last end is a first one", 1, 3, 3);
        both(x, "nothing", 0, 3, 0);
        both(x, "a point in the midst is no end", 4, 5, 2);
        checks.due("one", x.join(2, 2), NibLetters.STATE);
        checks.due("no such stroke", x.join(6, 0), NibLetters.UNKNOWN);
        checks.due("no such other stroke", x.join(0, 6), NibLetters.UNKNOWN);
        checks.due("one that is not there", x.join(6, 6), NibLetters.UNKNOWN);
        checks.due("stroke -1", x.join(-1, 0), NibLetters.UNKNOWN);
        checks.due("other stroke -1", x.join(0, -1), NibLetters.UNKNOWN);
    }

    private static void joinByEnds() {
        int[][] others = {{9, 9, 20, 9}, {20, 9, 9, 9}, {9, 20, 20, 20}, {20, 20, 9, 20}};
        for (int[] other : others) {
            NibLetters x = new NibLetters();
            x.nib(1, 0);
            Checks.stroke(x, 9, 9, 9, 20);
            x.nib(0, 1);
            Checks.stroke(x, other);
            both(x, "each end with each end", 0, 1, 3);
        }
        NibLetters x = new NibLetters();
        x.nib(1, 0);
        Checks.stroke(x, 9, 9, 9, 20);
        Checks.stroke(x, 11, 9, 11, 20);
        both(x, "side by side, ink in common, no end in it", 0, 1, 1);
        Checks.stroke(x, 12, 9, 12, 20);
        both(x, "side by side, nothing in common", 0, 2, 0);
    }

    private static void joinByAnEndInInk() {
        int[][] posts = {{12, 4, 12, 10}, {12, 10, 12, 4}, {12, 16, 12, 10}, {12, 10}, {3, 4, 3, 10}, {21, 10, 21, 20}};
        for (int[] post : posts) {
            NibLetters x = new NibLetters();
            x.nib(1, 0);
            Checks.stroke(x, 4, 10, 20, 10);
            x.nib(0, 1);
            Checks.stroke(x, post);
            both(x, "either end in the ink of the other one", 0, 1, 2);
        }
        NibLetters x = new NibLetters();
        x.nib(0, 1);
        Checks.stroke(x, 4, 0, 9, 0);
        Checks.stroke(x, 6, 1, 7, 3, 12, 1);
        both(x, "the first end in row 1", 0, 1, 2);
        Checks.stroke(x, 9, 2, 12, 2);
        both(x, "ink beside an end", 0, 2, 1);
        Checks.stroke(x, 10, 0, 31, 0);
        both(x, "ink that touches only", 0, 3, 0);
        x.nib(0, 1);
        Checks.stroke(x, 31, 1);
        both(x, "at the right edge", 3, 4, 2);
    }

    private static void pieces() {
        NibLetters x = new NibLetters();
        checks.due("pieces of nothing", x.pieces(0), 0);
        checks.due("counters of nothing", x.pieces(1), 0);
        x.nib(1, 0);
        Checks.stroke(x, 5, 5);
        checks.due("one", x.pieces(0), 1);
        Checks.stroke(x, 8, 6);
        checks.due("by corners", x.pieces(0), 1);
        Checks.stroke(x, 5, 8);
        checks.due("a row between", x.pieces(0), 2);
        x.nib(3, 2);
        Checks.stroke(x, 20, 20);
        checks.due("a nib that falls into three", x.pieces(0), 5);
        checks.due("pieces(2)", x.pieces(2), NibLetters.OUTSIDE);
        checks.due("pieces(-1)", x.pieces(-1), NibLetters.OUTSIDE);
        x.nib(1, 0);
        Checks.stroke(x, 0, 31);
        Checks.stroke(x, 31, 30);
        checks.due("left and right edges do not hang together", x.pieces(0), 7);
    }

    private static void piecesByCorners() {
        int[] tops = {5, 9};
        for (int top : tops) {
            NibLetters x = new NibLetters();
            x.nib(1, 1);
            Checks.stroke(x, 5, 8, 8, 11);
            x.nib(1, -1);
            Checks.stroke(x, 10, 11, 10 + 11 - top, top);
            checks.due("a V of hair lines", x.pieces(0), 1);
            x.nib(1, 1);
            Checks.stroke(x, 12, 15, 14, 17);
            checks.due("a hair line for itself", x.pieces(0), 2);
        }
    }

    private static void countersAtTheEdges() {
        int[][] bays = {
            {10, 0, 10, 5, 16, 5, 16, 0}, {10, 31, 10, 26, 16, 26, 16, 31},
            {0, 12, 5, 12, 5, 18, 0, 18}, {31, 12, 26, 12, 26, 18, 31, 18}};
        for (int[] bay : bays) {
            NibLetters x = new NibLetters();
            x.nib(1, 0);
            Checks.stroke(x, bay);
            checks.due("a bay at an edge", x.pieces(1), 0);
            Checks.stroke(x, bay[0], bay[1], bay[6], bay[7]);
            checks.due("closed at the edge", x.pieces(1), 1);
        }
        NibLetters corner = new NibLetters();
        corner.nib(1, 1);
        Checks.stroke(corner, 0, 1);
        Checks.stroke(corner, 1, 0);
        // (0, 0) and (1, 1) are closed in, one by one
        checks.due("a corner of the field is at its edge", corner.pieces(1), 1);
    }

    private static void everyPlaceInked() {
        NibLetters x = new NibLetters();
        x.nib(0, 6);
        Checks.stroke(x, 0, 6, 31, 6, 31, 19, 0, 19, 0, 27, 31, 27);
        checks.due("every place is inked", x.area(-1), 1024);
        checks.due("one piece", x.pieces(0), 1);
        checks.due("no counter", x.pieces(1), 0);
        x.keep(0);
        checks.due("an empty sheet, every place apart", x.fit(0, 0), 1024);
        checks.due("a of that", x.fit(0, 1), -3);
        checks.due("b of that", x.fit(0, 2), -3);
        checks.due("likest", x.likest(0), 0);
        checks.due("likest, apart", x.likest(1), 1024);
        checks.due("least x", x.ofLetter(0, 5), 0);
        checks.due("greatest x", x.ofLetter(0, 6), 31);
    }

    private static void counters() {
        NibLetters x = new NibLetters();
        x.nib(1, 1);
        Checks.stroke(x, 10, 5, 5, 10, 10, 15, 15, 10, 10, 5);
        checks.due("a ring", x.pieces(0), 1);
        checks.due("a ring closes in one", x.pieces(1), 1);
        NibLetters z = new NibLetters();
        z.nib(1, 1);
        Checks.stroke(z, 11, 9);
        Checks.stroke(z, 9, 11);
        z.nib(1, -1);
        Checks.stroke(z, 9, 9);
        checks.due("a gap in a corner", z.pieces(1), 0);
        Checks.stroke(z, 11, 11);
        checks.due("corners hold ink together", z.pieces(0), 1);
        checks.due("and close in what hangs by sides", z.pieces(1), 1);
        Checks.stroke(z, 10, 10);
        checks.due("but corners do not hold that together", z.pieces(1), 4);
        NibLetters edge = new NibLetters();
        edge.nib(0, 1);
        Checks.stroke(edge, 0, 5, 31, 5);
        checks.due("a bar leaves two sides, both at the edge", edge.pieces(1), 0);
        Checks.stroke(edge, 0, 20, 31, 20);
        checks.due("what lies between bars touches the edge", edge.pieces(1), 0);
        edge.nib(1, 0);
        Checks.stroke(edge, 0, 5, 0, 20);
        checks.due("ink on the left edge alone does not close it in", edge.pieces(1), 0);
        Checks.stroke(edge, 31, 5, 31, 20);
        checks.due("ink on both edges does", edge.pieces(1), 1);
        Checks.stroke(edge, 12, 5, 12, 20);
        checks.due("and a post makes two of it", edge.pieces(1), 2);
    }
}
