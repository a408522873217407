/** What the document says of bounds in part 4 and in promises 24 to 27: a rule for each such sentence. */
public final class BoundsFitsTest {
    private static final Checks checks = new Checks("BoundsFitsTest");

    public static void main(String[] args) {
        apartRefused();
        apartAtItsBounds();
        apartLost();
        fitRefused();
        fitAtItsBounds();
        fitOfSeveral();
        likestRefused();
        likestOfSeveral();
        lessonRefused();
        lessonFewer();
        lessonOrder();
        checks.end();
    }

    private static void rule(String rule, String text) {
        Script.rule(checks, rule, text);
    }

    private static void apartRefused() {
        rule("Promise 24: UNKNOWN, there is no such LETTER", """
                apart(0, 0, 0) ! UNKNOWN
                draw(9, 9)
                keep(0)
                apart(0, 0, 0) ! 5
                apart(1, 0, 0) ! UNKNOWN
                apart(25, 0, 0) ! UNKNOWN
                apart(26, 0, 0) ! UNKNOWN
                apart(-1, 0, 0) ! UNKNOWN
                apart(MIN, 0, 0) ! UNKNOWN
                apart(MAX, 0, 0) ! UNKNOWN
                """);
        rule("Promise 24: OUTSIDE, a -31 .. 31", """
                draw(9, 9)
                keep(25)
                apart(25, -31, 0) ! 5
                apart(25, 31, 0) ! 5
                apart(25, -32, 0) ! OUTSIDE
                apart(25, 32, 0) ! OUTSIDE
                apart(25, MIN, 0) ! OUTSIDE
                apart(25, MAX, 0) ! OUTSIDE
                """);
        rule("Promise 24: OUTSIDE, b -31 .. 31", """
                draw(9, 9)
                keep(25)
                apart(25, 0, -31) ! 5
                apart(25, 0, 31) ! 5
                apart(25, 0, -32) ! OUTSIDE
                apart(25, 0, 32) ! OUTSIDE
                apart(25, 0, MIN) ! OUTSIDE
                apart(25, 0, MAX) ! OUTSIDE
                """);
        rule("Promise 24: UNKNOWN is ahead of OUTSIDE", """
                apart(0, 32, 0) ! UNKNOWN
                apart(0, 0, -32) ! UNKNOWN
                apart(26, 32, 32) ! UNKNOWN
                """);
    }

    private static void apartAtItsBounds() {
        rule("Part 4: APART with an empty sheet is the INK of the LETTER", """
                draw(9, 9)
                keep(3)
                apart(3, 0, 0) = 5
                apart(3, 31, -31) = 5
                """);
        rule("Part 4: APART of the same INK is 0; a place of both counts for none", """
                nib(1, 0)
                draw(9, 9)
                keep(3)
                take(3)
                apart(3, 0, 0) = 0
                apart(3, 1, 0) = 2
                apart(3, -1, 0) = 2
                apart(3, 2, 0) = 4
                apart(3, 3, 0) = 6
                apart(3, 0, 1) = 6
                """);
        rule("Part 4: INK of all STROKES of THE SHEET, of all STROKES of the LETTER", """
                nib(1, 0)
                draw(9, 9)
                draw(9, 12)
                keep(3)
                draw(9, 9)
                apart(3, 0, 0) = 3
                apart(3, 0, 3) = 3
                draw(9, 12)
                apart(3, 0, 0) = 0
                apart(3, 0, 3) = 6
                """);
        rule("Part 4: by 31, from edge to edge, and the right way round", """
                nib(0, 1)
                draw(0, 5)
                keep(0) // x 0
                draw(31, 5)
                keep(1) // x 31
                take(0)
                apart(1, 31, 0) = 0
                apart(1, 30, 0) = 6
                apart(1, -31, 0) = 3
                take(1)
                apart(0, -31, 0) = 0
                apart(0, 31, 0) = 3
                nib(1, 0)
                undo()
                draw(9, 0)
                keep(2) // y 0
                draw(9, 31)
                keep(3) // y 31
                take(2)
                apart(3, 0, 31) = 0
                apart(3, 0, -31) = 3
                take(3)
                apart(2, 0, -31) = 0
                apart(2, 0, 31) = 3
                """);
        rule("Part 4: every place and none", """
                nib(0, 6)
                draw(0, 6, 31, 6, 31, 19, 0, 19, 0, 27, 31, 27)
                keep(0)
                apart(0, 0, 0) = 1024
                take(0)
                apart(0, 0, 0) = 0
                apart(0, 1, 0) = 32
                apart(0, 0, 1) = 32
                apart(0, -31, -31) = 1023
                apart(0, 31, 31) = 1023
                """);
    }

    private static void apartLost() {
        rule("Part 4: what is moved off THE FIELD is lost, on each side", """
                nib(1, 0)
                draw(15, 15)
                keep(0)
                draw(1, 10) // x 0 .. 2
                apart(0, -1, 0) = 5
                apart(0, -2, 0) = 4
                apart(0, -3, 0) = 3
                undo()
                draw(30, 10) // x 29 .. 31
                apart(0, 1, 0) = 5
                apart(0, 2, 0) = 4
                apart(0, 3, 0) = 3
                undo()
                draw(10, 1)
                apart(0, 0, -1) = 6
                apart(0, 0, -2) = 3
                undo()
                draw(10, 30)
                apart(0, 0, 1) = 6
                apart(0, 0, 2) = 3
                """);
        rule("Part 4: it does not come back on the other side", """
                nib(0, 1)
                draw(0, 10)
                keep(0)
                draw(31, 10)
                apart(0, 1, 0) = 3
                apart(0, 1, -1) = 3
                apart(0, 1, 1) = 3
                keep(1)
                take(0)
                apart(1, -1, 0) = 3
                nib(1, 0)
                undo()
                draw(10, 0)
                keep(2)
                draw(10, 31)
                apart(2, 0, 1) = 3
                keep(3)
                take(2)
                apart(3, 0, -1) = 3
                """);
    }

    private static void fitRefused() {
        rule("Promise 25: UNKNOWN, there is no such LETTER", """
                fit(0, 0) ! UNKNOWN
                draw(9, 9)
                keep(0)
                fit(0, 0) ! 5
                fit(1, 0) ! UNKNOWN
                fit(25, 0) ! UNKNOWN
                fit(26, 0) ! UNKNOWN
                fit(-1, 0) ! UNKNOWN
                fit(MIN, 0) ! UNKNOWN
                fit(MAX, 0) ! UNKNOWN
                """);
        rule("Promise 25: OUTSIDE, what is 0 .. 2", """
                draw(9, 9)
                keep(25)
                draw(8, 6)
                fit(25, 0) ! 0
                fit(25, 1) ! 1
                fit(25, 2) ! 3
                fit(25, 3) ! OUTSIDE
                fit(25, -1) ! OUTSIDE
                fit(25, MIN) ! OUTSIDE
                fit(25, MAX) ! OUTSIDE
                """);
        rule("Promise 25: UNKNOWN is ahead of OUTSIDE", """
                fit(0, 3) ! UNKNOWN
                fit(26, -1) ! UNKNOWN
                """);
    }

    private static void fitAtItsBounds() {
        int[][] shifts = {{-3, -3}, {-3, 3}, {3, -3}, {3, 3}, {0, 0}};
        for (int[] shift : shifts) {
            rule("Part 4: by a, b -3 .. 3: (" + shift[0] + ", " + shift[1] + ")", "draw(15, 15)\nkeep(0)\n"
                    + "draw(" + (15 - shift[0]) + ", " + (15 - shift[1]) + ")\n"
                    + "fit(0, 0) = 0\nfit(0, 1) = " + shift[0] + "\nfit(0, 2) = " + shift[1] + "\n");
        }
        rule("Part 4: by a -4 and 4 nothing is tried", """
                nib(3, 0)
                draw(15, 15)
                keep(0)
                draw(19, 15)
                fit(0, 0) = 2
                fit(0, 1) = -3
                fit(0, 2) = 0
                undo()
                draw(11, 15)
                fit(0, 0) = 2
                fit(0, 1) = 3
                fit(0, 2) = 0
                """);
        rule("Part 4: by b -4 and 4 nothing is tried", """
                nib(0, 3)
                draw(15, 15)
                keep(0)
                draw(15, 19)
                fit(0, 0) = 2
                fit(0, 1) = 0
                fit(0, 2) = -3
                undo()
                draw(15, 11)
                fit(0, 0) = 2
                fit(0, 1) = 0
                fit(0, 2) = 3
                """);
        rule("Part 4: every place apart, whatever the shift is", """
                nib(0, 6)
                draw(0, 6, 31, 6, 31, 19, 0, 19, 0, 27, 31, 27)
                keep(0)
                fit(0, 0) = 1024
                fit(0, 1) = -3
                fit(0, 2) = -3
                likest(0) = 0
                likest(1) = 1024
                """);
    }

    private static void fitOfSeveral() {
        rule("Part 4: of several the one of the least a, then of the least b: an empty sheet", """
                draw(15, 15)
                keep(0)
                fit(0, 0) = 5
                fit(0, 1) = -3
                fit(0, 2) = -3
                """);
        rule("Part 4: of several the one of the least a", """
                nib(1, 0)
                draw(15, 15)
                keep(0)
                nib(3, 0)
                draw(15, 15)
                fit(0, 0) = 4 // a -2 .. 2
                fit(0, 1) = -2
                fit(0, 2) = 0
                """);
        rule("Part 4: then of the least b", """
                nib(0, 1)
                draw(15, 15)
                keep(0)
                nib(0, 3)
                draw(15, 15)
                fit(0, 0) = 4 // b -2 .. 2
                fit(0, 1) = 0
                fit(0, 2) = -2
                """);
        rule("Part 4: the least a, though another one has a lesser b", """
                nib(1, 0)
                draw(15, 15)
                keep(0)
                draw(17, 13) // fits by (-2, 2)
                draw(13, 17) // fits by (2, -2)
                fit(0, 0) = 3
                fit(0, 1) = -2
                fit(0, 2) = 2
                """);
    }

    private static void likestRefused() {
        rule("Promise 26: NONE, there are no LETTERS; OUTSIDE is ahead of it", """
                likest(0) ! NONE
                likest(1) ! NONE
                likest(2) ! OUTSIDE
                likest(-1) ! OUTSIDE
                draw(9, 9)
                likest(0) ! NONE
                keep(3)
                forget(3)
                likest(0) ! NONE
                """);
        rule("Promise 26: OUTSIDE, what is 0 or 1", """
                draw(9, 9)
                keep(25)
                likest(0) ! 25
                likest(1) ! 5
                likest(2) ! OUTSIDE
                likest(-1) ! OUTSIDE
                likest(MIN) ! OUTSIDE
                likest(MAX) ! OUTSIDE
                """);
    }

    private static void likestOfSeveral() {
        rule("Part 4: LIKEST, of several the least NAME", """
                draw(9, 9)
                keep(25)
                draw(9, 20)
                keep(0)
                draw(20, 9)
                keep(13)
                likest(0) = 0 // all are 5 apart
                likest(1) = 5
                draw(9, 8)
                likest(0) = 25
                likest(1) = 0
                draw(9, 19)
                undo()
                undo()
                draw(9, 9)
                keep(4)
                draw(9, 10)
                likest(0) = 4
                forget(4)
                likest(0) = 25
                """);
        rule("Part 4: LIKEST of ten, the last one", BoundsLettersTest.TEN_LETTERS + """
                take(25)
                undo()
                draw(15, 9)
                likest(0) = 25
                likest(1) = 0
                draw(31, 31)
                likest(1) = 1
                """);
        rule("Part 4: FIT of 0 at 0, and one that is nearly so", """
                nib(1, 0)
                draw(9, 9)
                draw(20, 20)
                keep(1)
                draw(9, 9)
                keep(2)
                draw(9, 9)
                likest(0) = 2
                draw(20, 20)
                likest(0) = 1
                likest(1) = 0
                """);
    }

    private static void lessonRefused() {
        rule("Promise 27: OUTSIDE, k 0 .. 9; it is ahead of NONE", """
                lesson(0, 0) ! NONE
                lesson(9, 0) ! NONE
                lesson(10, 0) ! OUTSIDE
                lesson(-1, 0) ! OUTSIDE
                lesson(MIN, 0) ! OUTSIDE
                lesson(MAX, 0) ! OUTSIDE
                draw(9, 9)
                keep(3)
                lesson(0, 0) ! 3
                lesson(1, 0) ! NONE
                lesson(10, 0) ! OUTSIDE
                lesson(-1, 0) ! OUTSIDE
                """);
        rule("Promise 27: OUTSIDE, what is 0 or 1; it is ahead of NONE", """
                lesson(0, 2) ! OUTSIDE
                lesson(0, -1) ! OUTSIDE
                draw(9, 9)
                keep(25)
                lesson(0, 0) ! 25
                lesson(0, 1) ! 1
                lesson(0, 2) ! OUTSIDE
                lesson(0, -1) ! OUTSIDE
                lesson(0, MIN) ! OUTSIDE
                lesson(0, MAX) ! OUTSIDE
                lesson(1, 2) ! OUTSIDE
                """);
    }

    private static void lessonFewer() {
        rule("Promise 27: NONE, there are fewer LETTERS", """
                lesson(0, 1) ! NONE
                draw(9, 9)
                keep(0)
                lesson(1, 0) ! NONE
                lesson(1, 1) ! NONE
                draw(9, 9)
                keep(25)
                lesson(1, 0) ! 25
                lesson(1, 1) ! 0
                lesson(2, 0) ! NONE
                lesson(2, 1) ! NONE
                lesson(9, 1) ! NONE
                forget(0)
                lesson(0, 0) ! 25
                lesson(1, 0) ! NONE
                """);
        rule("Promise 27: all ten of them, alike: the least NAME first", BoundsLettersTest.TEN_LETTERS + """
                lesson(0, 0) = 0
                lesson(0, 1) = 1
                lesson(1, 0) = 2
                lesson(1, 1) = 0
                lesson(8, 0) = 16
                lesson(9, 0) = 25
                lesson(9, 1) = 0
                """);
    }

    private static void lessonOrder() {
        rule("Part 4: the fewest KINDS that are not of any LETTER ahead (each KIND counts once)", """
                nib(3, 0)
                draw(5, 5, 9, 5)
                draw(5, 5, 5, 9)
                keep(0) // hair; full
                draw(5, 5, 8, 6)
                draw(6, 5, 9, 6)
                draw(7, 5, 10, 6)
                keep(1) // thin, three times
                lesson(0, 0) = 1
                lesson(0, 1) = 1
                lesson(1, 0) = 0
                lesson(1, 1) = 2
                draw(5, 5, 9, 5)
                keep(25) // hair
                lesson(0, 0) = 1
                lesson(1, 0) = 25
                lesson(1, 1) = 1
                lesson(2, 0) = 0
                lesson(2, 1) = 1 // full alone is new by then
                """);
        rule("Part 4: of several the least NAME, each time anew", """
                nib(3, 0)
                draw(5, 5, 9, 5)
                draw(5, 5, 5, 9)
                keep(0) // hair; full
                draw(5, 5)
                keep(9) // none
                draw(5, 5, 8, 6)
                draw(5, 5)
                keep(4) // thin; none
                draw(5, 5, 9, 5)
                draw(5, 5)
                keep(7) // hair; none
                lesson(0, 0) = 9 // one, the others two
                lesson(1, 0) = 4 // 4 and 7 one, 0 two
                lesson(1, 1) = 1
                lesson(2, 0) = 7 // one, 0 still two
                lesson(2, 1) = 1
                lesson(3, 0) = 0
                lesson(3, 1) = 1
                lesson(4, 0) = NONE
                """);
        rule("Part 4: KINDS of THE SHEET are not of any LETTER ahead", """
                nib(3, 0)
                draw(5, 5, 9, 5)
                keep(0)
                draw(5, 5, 9, 5)
                lesson(0, 1) = 1
                """);
        rule("Part 4: six KINDS that are new, and none", """
                nib(3, 0)
                draw(5, 5)
                draw(5, 5, 9, 5)
                draw(5, 5, 8, 6)
                draw(5, 5, 5, 9)
                draw(5, 5, 9, 5, 9, 9)
                draw(5, 5, 5, 9, 9, 9)
                keep(3)
                take(3)
                keep(8)
                lesson(0, 0) = 3
                lesson(0, 1) = 6
                lesson(1, 0) = 8
                lesson(1, 1) = 0
                """);
    }
}
