/** What the document says of bounds in part 3 and in promises 16 and 17: a rule for each such sentence. */
public final class BoundsJoinsTest {
    private static final Checks checks = new Checks("BoundsJoinsTest");

    public static void main(String[] args) {
        joinRefused();
        joinByEnds();
        joinByOneEnd();
        joinByAnEndInInk();
        joinByInk();
        piecesRefused();
        piecesOfFew();
        piecesAtTheEdges();
        counters();
        countersAtTheEdges();
        countersBesideTheEdges();
        countersBesideBays();
        checks.end();
    }

    private static void rule(String rule, String text) {
        Script.rule(checks, rule, text);
    }

    private static void joinRefused() {
        rule("Promise 16: UNKNOWN, either", """
                join(0, 1) ! UNKNOWN
                draw(5, 5)
                join(0, 1) ! UNKNOWN
                join(1, 0) ! UNKNOWN
                draw(5, 6)
                join(0, 1) ! 0
                join(0, 2) ! UNKNOWN
                join(2, 0) ! UNKNOWN
                join(0, 6) ! UNKNOWN
                join(6, 0) ! UNKNOWN
                join(0, -1) ! UNKNOWN
                join(-1, 0) ! UNKNOWN
                join(0, MIN) ! UNKNOWN
                join(MIN, 0) ! UNKNOWN
                join(0, MAX) ! UNKNOWN
                join(MAX, 0) ! UNKNOWN
                """);
        rule("Promise 16: STATE, they are one", """
                draw(5, 5)
                draw(5, 6)
                join(0, 0) ! STATE
                join(1, 1) ! STATE
                draw(5, 5)
                join(0, 2) = 3 // alike, but not one
                """);
        rule("Promise 16: UNKNOWN is ahead of STATE", """
                join(0, 0) ! UNKNOWN
                draw(5, 5)
                join(1, 1) ! UNKNOWN
                join(-1, -1) ! UNKNOWN
                """);
    }

    private static void joinByEnds() {
        String[] others = {"3, 9, 3, 3", "3, 3, 3, 9", "9, 9, 9, 3", "9, 3, 9, 9"};
        for (String other : others) {
            rule("Part 3: 3, if an END is the same place as an END, (3, 3, 9, 3) and (" + other + ")",
                    "nib(0, 1)\ndraw(3, 3, 9, 3)\nnib(1, 0)\ndraw(" + other + ")\njoin(0, 1) = 3\njoin(1, 0) = 3\n");
        }
        rule("Part 3: a POINT that is no END does not count", """
                nib(1, 0)
                draw(3, 3, 9, 3, 9, 9)
                draw(9, 3, 20, 3) // an end at a point of the midst
                join(0, 1) = 2
                join(1, 0) = 2
                draw(9, 0, 9, 3, 20, 0) // both in the midst, ends away
                join(0, 2) = 1
                join(2, 0) = 1
                """);
        rule("Part 3: an x or a y alone does not make the same place", """
                nib(0, 1)
                draw(3, 10, 9, 10)
                draw(3, 20, 9, 20)
                join(0, 1) = 0
                draw(10, 3, 20, 3)
                join(0, 2) = 0
                """);
    }

    private static void joinByOneEnd() {
        rule("Part 3: first and last POINT, perhaps one", """
                draw(5, 5)
                draw(5, 5, 20, 5)
                draw(20, 5, 5, 5)
                draw(5, 5)
                join(0, 1) = 3
                join(0, 2) = 3
                join(0, 3) = 3
                join(1, 0) = 3
                join(3, 2) = 3
                join(1, 2) = 3
                draw(20, 20, 25, 20, 25, 25, 20, 20) // first and last are one place
                draw(20, 20)
                join(4, 5) = 3
                join(5, 4) = 3
                """);
    }

    private static void joinByAnEndInInk() {
        rule("Part 3: 2, if an END of one of them is in the INK of the other one, either way", """
                nib(0, 1)
                draw(4, 10, 20, 10)
                nib(1, 0)
                draw(12, 9, 12, 3) // the first end on the rim of the ink
                join(0, 1) = 2
                join(1, 0) = 2
                draw(12, 3, 12, 9) // the last end
                join(0, 2) = 2
                join(2, 0) = 2
                draw(12, 8, 12, 3) // one place away from it
                join(0, 3) = 0
                join(3, 0) = 0
                draw(21, 4, 21, 16) // has the other one's last end in its ink
                join(0, 4) = 2
                join(4, 0) = 2
                draw(3, 4, 3, 16) // has the other one's first end in its ink
                join(0, 5) = 2
                join(5, 0) = 2
                """);
        rule("Part 3: ENDS at the edges of THE FIELD", """
                nib(1, 1)
                draw(0, 0, 31, 0)
                nib(1, -1)
                draw(1, 1, 1, 9)
                join(0, 1) = 2
                draw(31, 1, 31, 31)
                join(0, 2) = 2
                draw(0, 31, 29, 31)
                join(2, 3) = 1 // (30, 30), no end
                draw(31, 31)
                join(4, 2) = 3
                join(4, 0) = 0
                draw(0, 30)
                join(4, 5) = 0
                """);
    }

    private static void joinByInk() {
        rule("Part 3: 1, if some place is in the INK of both", """
                nib(1, 0)
                draw(9, 9, 9, 20)
                draw(11, 9, 11, 20) // side by side: x 10 is in both
                join(0, 1) = 1
                draw(12, 9, 12, 20) // x 11 is not
                join(0, 2) = 0
                draw(4, 15, 20, 15) // across
                join(0, 3) = 1
                join(3, 0) = 1
                draw(11, 20, 11, 30)
                join(0, 4) = 1 // one place, (10, 20)
                draw(11, 21, 11, 30)
                join(0, 5) = 0
                """);
        rule("Part 3: some place, be it of the first or of the last row", """
                nib(1, 1)
                draw(10, 1) // (9, 0), (10, 1), (11, 2)
                nib(1, -1)
                draw(8, 1) // (9, 0), (8, 1), (7, 2)
                join(0, 1) = 1
                join(1, 0) = 1
                draw(10, 30) // (11, 29), (10, 30), (9, 31)
                nib(1, 1)
                draw(8, 30) // (7, 29), (8, 30), (9, 31)
                join(2, 3) = 1
                join(3, 2) = 1
                """);
        rule("Part 3: some place, be it of the first or of the last column", """
                nib(1, 1)
                draw(1, 10) // (0, 9), (1, 10), (2, 11)
                nib(1, -1)
                draw(1, 8) // (2, 7), (1, 8), (0, 9)
                join(0, 1) = 1
                draw(30, 10) // (31, 9), (30, 10), (29, 11)
                nib(1, 1)
                draw(30, 8) // (29, 7), (30, 8), (31, 9)
                join(2, 3) = 1
                """);
        rule("Part 3: lines that cross between places have no place of both", """
                nib(1, 1)
                draw(10, 10) // (9, 9), (10, 10), (11, 11)
                nib(1, -1)
                draw(11, 10) // (10, 11), (11, 10), (12, 9)
                join(0, 1) = 0
                join(1, 0) = 0
                """);
    }

    private static void piecesRefused() {
        rule("Promise 17: OUTSIDE, what is 0 or 1", """
                draw(5, 5)
                pieces(0) ! 1
                pieces(1) ! 0
                pieces(2) ! OUTSIDE
                pieces(-1) ! OUTSIDE
                pieces(MIN) ! OUTSIDE
                pieces(MAX) ! OUTSIDE
                """);
    }

    private static void piecesOfFew() {
        rule("Promise 17: of no INK there are no PIECES and no COUNTERS", """
                pieces(0) ! 0
                pieces(1) ! 0
                draw(5, 5)
                undo()
                pieces(0) ! 0
                """);
        rule("Part 3: PIECES hang together by sides and by corners", """
                nib(1, 0)
                draw(5, 5)
                draw(5, 6) // by a side, below
                pieces(0) = 1
                draw(8, 6) // by a side, to the right
                pieces(0) = 1
                draw(11, 7) // by a corner
                pieces(0) = 1
                draw(15, 7) // a place between
                pieces(0) = 2
                draw(5, 8) // a row between
                pieces(0) = 3
                """);
        rule("Part 3: by each of the four corners", """
                nib(2, 2)
                draw(10, 10)
                pieces(0) = 1
                nib(2, -2)
                draw(20, 10)
                pieces(0) = 2
                nib(1, 0)
                draw(14, 13) // at (12, 12)
                draw(16, 13) // at (18, 12), and beside the one ahead
                pieces(0) = 1
                nib(3, -3)
                draw(21, 9) // the right one taller than the left one
                pieces(0) = 1
                """);
        rule("Part 3: the whole of THE FIELD is one piece and closes nothing in", """
                nib(0, 6)
                draw(0, 6, 31, 6, 31, 19, 0, 19, 0, 27, 31, 27)
                area(-1) = 1024
                pieces(0) = 1
                pieces(1) = 0
                """);
        rule("Part 3: a NIB whose places don't hang together", """
                nib(6, 5)
                draw(16, 16)
                pieces(0) = 3
                draw(6, 26)
                pieces(0) = 6
                """);
    }

    private static void piecesAtTheEdges() {
        rule("Part 3: nothing hangs together around the edges of THE FIELD", """
                nib(1, 0)
                draw(0, 10) // x 0, 1
                draw(31, 10)
                pieces(0) = 2
                draw(31, 9)
                pieces(0) = 2
                draw(15, 0)
                draw(15, 31)
                pieces(0) = 4
                draw(31, 31)
                pieces(0) = 5
                """);
        rule("Part 3: nor do the corners of THE FIELD", """
                draw(0, 0)
                draw(31, 31)
                pieces(0) = 2
                draw(31, 0)
                draw(0, 31)
                pieces(0) = 4
                pieces(1) = 0
                """);
    }

    private static void counters() {
        rule("Part 3: COUNTERS hang together by sides alone, a corner opens none", """
                nib(1, 1)
                draw(11, 9)
                draw(9, 11)
                nib(1, -1)
                draw(9, 9)
                pieces(1) = 0
                draw(11, 11)
                pieces(1) = 1 // closed in by ink that hangs by corners
                draw(10, 10)
                pieces(1) = 4 // four places that touch by corners
                """);
        rule("Part 3: a COUNTER of one place", """
                nib(1, 0)
                draw(10, 9)
                draw(9, 10)
                undo()
                nib(0, 1)
                draw(9, 10)
                draw(11, 10)
                pieces(1) = 0
                nib(1, 0)
                draw(10, 11)
                pieces(1) = 1
                nib(0, 1)
                draw(10, 10)
                pieces(1) = 0
                """);
        rule("Part 3: COUNTERS within COUNTERS", """
                nib(1, 1)
                draw(4, 4, 27, 4, 27, 27, 4, 27, 4, 4)
                pieces(1) = 1
                draw(9, 9, 22, 9, 22, 22, 9, 22, 9, 9)
                pieces(0) = 2
                pieces(1) = 2
                """);
    }

    private static void countersAtTheEdges() {
        String[][] bays = {
            {"x 0", "draw(0, 10, 6, 10, 6, 16, 0, 16)", "draw(0, 10, 0, 16)"},
            {"x 31", "draw(31, 10, 25, 10, 25, 16, 31, 16)", "draw(31, 10, 31, 16)"},
            {"y 0", "draw(10, 0, 10, 6, 16, 6, 16, 0)", "draw(10, 0, 16, 0)"},
            {"y 31", "draw(10, 31, 10, 25, 16, 25, 16, 31)", "draw(10, 31, 16, 31)"}};
        for (String[] bay : bays) {
            rule("Part 3: no place with x or y 0 or 31: a bay at " + bay[0],
                    "nib(1, 1)\n" + bay[1] + "\npieces(1) = 0\n" + bay[2] + "\npieces(1) = 1\n");
        }
        rule("Part 3: each corner of THE FIELD has x or y 0 or 31", """
                nib(1, 1)
                draw(31, 0)
                draw(0, 31)
                nib(1, -1)
                draw(0, 0, 1, 0)
                draw(31, 31, 30, 31)
                pieces(1) = 0
                """);
        rule("Part 3: one place of a bay at an edge is enough", """
                nib(0, 1)
                draw(0, 10, 10, 10)
                draw(0, 20, 10, 20)
                draw(10, 10, 10, 20)
                pieces(1) = 0
                draw(0, 10, 0, 17) // inked down to y 18
                undo()
                draw(0, 10, 0, 16) // to y 17: (0, 18) is left
                pieces(1) = 0
                undo()
                draw(0, 10, 0, 17)
                pieces(1) = 1
                """);
    }

    private static void countersBesideTheEdges() {
        String[][] rings = {
            {"(1, 1)", "nib(1, 1)\ndraw(0, 1)\ndraw(1, 0)\n"},
            {"(30, 30)", "nib(1, 1)\ndraw(31, 30)\ndraw(30, 31)\n"},
            {"(30, 1)", "nib(1, -1)\ndraw(31, 1)\ndraw(30, 0)\n"},
            {"(1, 30)", "nib(1, -1)\ndraw(0, 30)\ndraw(1, 31)\n"}};
        for (String[] ring : rings) {
            rule("Part 3: " + ring[0] + " is not at an edge", ring[1] + "area(-1) = 4\npieces(1) = 1\n");
        }
    }

    private static void countersBesideBays() {
        String[][] bays = {
            {"(0, 10), (1, 11)", "nib(1, 1)\ndraw(1, 10)\ndraw(0, 11)\n"},
            {"(31, 10), (30, 11)", "nib(1, -1)\ndraw(30, 10)\ndraw(31, 11)\n"},
            {"(10, 0), (11, 1)", "nib(1, 1)\ndraw(10, 1)\ndraw(11, 0)\n"},
            {"(10, 31), (11, 30)", "nib(1, -1)\ndraw(10, 30)\ndraw(11, 31)\n"}};
        for (String[] bay : bays) {
            rule("Part 3: by sides alone, so a corner at a bay opens none: " + bay[0], bay[1] + "area(-1) = 5\npieces(1) = 1\n");
        }
    }
}
