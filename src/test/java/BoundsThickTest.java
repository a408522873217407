/** What the document says of bounds in part 2 and in promises 12 to 15: a rule for each such sentence. */
public final class BoundsThickTest {
    private static final Checks checks = new Checks("BoundsThickTest");

    public static void main(String[] args) {
        limit();
        thickRefused();
        thickAsAShare();
        sortRefused();
        hair();
        fullAtTheLimit();
        wrong();
        wrongAtMost();
        checks.end();
    }

    private static void rule(String rule, String text) {
        Script.rule(checks, rule, text);
    }

    private static void limit() {
        rule("Part 2: LIMIT is 4 at first", """
                many(5) ! 4
                limit(4) ! 4
                """);
        rule("Promise 12: OUTSIDE, LIMIT is 1 .. 20", """
                limit(1) = 4
                limit(20) = 1
                limit(0) ! OUTSIDE
                limit(21) ! OUTSIDE
                limit(-1) ! OUTSIDE
                limit(MIN) ! OUTSIDE
                limit(MAX) ! OUTSIDE
                many(5) = 20
                limit(7) = 20
                """);
    }

    private static void thickRefused() {
        rule("Promise 13: UNKNOWN, there is no such STROKE", """
                thick(0, 0, 0) ! UNKNOWN
                draw(8, 4, 8, 20)
                thick(0, 0, 0) ! 16
                thick(1, 0, 0) ! UNKNOWN
                thick(5, 0, 0) ! UNKNOWN
                thick(6, 0, 0) ! UNKNOWN
                thick(-1, 0, 0) ! UNKNOWN
                thick(MIN, 0, 0) ! UNKNOWN
                thick(MAX, 0, 0) ! UNKNOWN
                """);
        rule("Promise 13: UNKNOWN, there is no such STEP", """
                draw(8, 4, 8, 5, 8, 6, 8, 7, 8, 8, 8, 9, 8, 10, 9, 10)
                draw(8, 4, 8, 5)
                draw(8, 4)
                thick(0, 0, 0) ! 16
                thick(0, 6, 0) ! 16
                thick(0, 7, 0) ! UNKNOWN // the last POINT leads nowhere
                thick(0, 8, 0) ! UNKNOWN
                thick(0, -1, 0) ! UNKNOWN
                thick(0, MIN, 0) ! UNKNOWN
                thick(0, MAX, 0) ! UNKNOWN
                thick(1, 0, 0) ! 16
                thick(1, 1, 0) ! UNKNOWN
                thick(2, 0, 0) ! UNKNOWN // one POINT, no STEP
                """);
        rule("Promise 13: OUTSIDE, which is 0 or 1", """
                draw(8, 20, 14, 12)
                thick(0, 0, 0) ! 16
                thick(0, 0, 1) ! 25
                thick(0, 0, 2) ! OUTSIDE
                thick(0, 0, -1) ! OUTSIDE
                thick(0, 0, MIN) ! OUTSIDE
                thick(0, 0, MAX) ! OUTSIDE
                """);
        rule("Promise 13: UNKNOWN is ahead of OUTSIDE", """
                thick(0, 0, 2) ! UNKNOWN
                draw(8, 20, 14, 12)
                thick(0, 1, 2) ! UNKNOWN
                thick(0, -1, -1) ! UNKNOWN
                thick(1, 0, 2) ! UNKNOWN
                """);
    }

    private static void thickAsAShare() {
        rule("Terms: nothing is 0 of 1", """
                draw(8, 20, 14, 14, 8, 20, 9, 19) // with the nib, against it, and by one place
                thick(0, 0, 0) = 0
                thick(0, 0, 1) = 1
                thick(0, 1, 0) = 0
                thick(0, 1, 1) = 1
                thick(0, 2, 0) = 0
                thick(0, 2, 1) = 1
                """);
        rule("Terms: in least terms, the lower one above 0", """
                nib(1, 0)
                draw(0, 5, 31, 6, 31, 5, 30, 4)
                thick(0, 0, 0) = 2 // 4 of 962
                thick(0, 0, 1) = 481
                thick(0, 1, 0) = 4 // 4 of 1
                thick(0, 1, 1) = 1
                thick(0, 2, 0) = 2 // 4 of 2
                thick(0, 2, 1) = 1
                nib(3, 1)
                draw(0, 0, 2, 4, 2, 3, 0, 0)
                thick(1, 0, 0) = 20 // 400 of 20
                thick(1, 0, 1) = 1
                thick(1, 1, 0) = 36
                thick(1, 2, 0) = 196 // 196 of 13, least as it is
                thick(1, 2, 1) = 13
                """);
        rule("Part 2: THICK at its greatest", """
                nib(6, -6)
                draw(0, 0, 31, 31, 0, 0, 31, 30)
                thick(0, 0, 0) = 288
                thick(0, 0, 1) = 1
                thick(0, 1, 0) = 288
                thick(0, 2, 0) = 535824 // 366 times itself, four times
                thick(0, 2, 1) = 1861
                nib(6, 6)
                draw(0, 31, 31, 0)
                thick(1, 0, 0) = 288
                """);
    }

    private static void sortRefused() {
        rule("Promise 14: UNKNOWN, there is no such STROKE", """
                sort(0, 0) ! UNKNOWN
                draw(8, 4, 8, 20)
                sort(0, 0) ! 2
                sort(1, 0) ! UNKNOWN
                sort(5, 0) ! UNKNOWN
                sort(6, 0) ! UNKNOWN
                sort(-1, 0) ! UNKNOWN
                sort(MIN, 0) ! UNKNOWN
                sort(MAX, 0) ! UNKNOWN
                """);
        rule("Promise 14: UNKNOWN, there is no such STEP", """
                draw(8, 4, 8, 5, 8, 6, 8, 7, 8, 8, 8, 9, 8, 10, 9, 9)
                draw(8, 4, 8, 5)
                draw(8, 4)
                sort(0, 0) ! 2
                sort(0, 6) ! 0
                sort(0, 7) ! UNKNOWN
                sort(0, 8) ! UNKNOWN
                sort(0, -1) ! UNKNOWN
                sort(0, MIN) ! UNKNOWN
                sort(0, MAX) ! UNKNOWN
                sort(1, 0) ! 2
                sort(1, 1) ! UNKNOWN
                sort(2, 0) ! UNKNOWN
                """);
    }

    private static void hair() {
        rule("Part 2: HAIR, if TWIST is 0, whatever LIMIT is; TWIST of 1 is none", """
                nib(1, 0)
                limit(1)
                draw(0, 5, 31, 5, 0, 5, 31, 6, 0, 5)
                sort(0, 0) = 0
                sort(0, 1) = 0
                sort(0, 2) = 1
                sort(0, 3) = 1
                limit(20)
                sort(0, 0) = 0
                sort(0, 2) = 1
                """);
    }

    private static void fullAtTheLimit() {
        for (int u = 1; u <= 6; u++) {
            // straight down THICK is 4 u u: just LIMIT times LIMIT at 2 u
            rule("Part 2: FULL, if THICK is no less than LIMIT times LIMIT; nib (" + u + ", 0)", "nib(" + u + ", 0)\n"
                    + "draw(10, 4, 10, 9, 10, 8)\n"
                    + "limit(" + (2 * u) + ")\nsort(0, 0) = 2\nsort(0, 1) = 2\n"
                    + "limit(" + (2 * u + 1) + ")\nsort(0, 0) = 1\nsort(0, 1) = 1\n"
                    + "limit(" + (2 * u - 1) + ")\nsort(0, 0) = 2\nsort(0, 1) = 2\n");
        }
        rule("Part 2: FULL, if THICK is no less, of shares", """
                nib(5, 0)
                draw(4, 4, 8, 7) // 900 of 25
                limit(6)
                sort(0, 0) = 2
                limit(7)
                sort(0, 0) = 1
                nib(1, 0)
                draw(4, 0, 5, 31) // 3844 of 962, a little less than 4
                limit(2)
                sort(1, 0) = 1
                limit(1)
                sort(1, 0) = 2
                draw(4, 4, 5, 5) // 2
                sort(2, 0) = 2
                draw(4, 4, 9, 6, 11, 7) // 16 of 29, 4 of 5
                sort(3, 0) = 1
                sort(3, 1) = 1
                """);
        rule("Part 2: the greatest THICK is FULL up to LIMIT 16, and never at 20", """
                nib(6, -6)
                draw(0, 0, 31, 31)
                limit(16)
                sort(0, 0) = 2
                limit(17)
                sort(0, 0) = 1
                limit(20)
                sort(0, 0) = 1
                """);
    }

    private static void wrong() {
        rule("Promise 15: of no STROKES, of no STEPS, none", """
                wrong() ! 0
                draw(9, 9)
                wrong() ! 0
                """);
        rule("Part 2: WRONG is a STEP with dy above 0 that is not FULL", """
                nib(2, 0)
                draw(10, 4, 10, 5) // full
                wrong() = 0
                limit(5) // thin
                wrong() = 1
                undo()
                nib(0, 2)
                draw(10, 4, 10, 5) // hair
                wrong() = 1
                """);
        rule("Part 2: or with dy below 0 that is FULL", """
                nib(2, 0)
                draw(10, 5, 10, 4)
                wrong() = 1
                limit(5)
                wrong() = 0
                limit(4)
                undo()
                nib(0, 2)
                draw(10, 5, 10, 4)
                wrong() = 0
                """);
        rule("Part 2: a STEP with dy 0 is never WRONG", """
                nib(0, 2)
                draw(10, 5, 15, 5, 10, 5) // full
                sort(0, 0) = 2
                wrong() = 0
                limit(5) // thin
                wrong() = 0
                nib(2, 0)
                draw(10, 5, 15, 5, 10, 5) // hair
                sort(1, 0) = 0
                wrong() = 0
                """);
    }

    private static void wrongAtMost() {
        String up = "draw(9, 15, 9, 13, 9, 11, 9, 9, 9, 7, 9, 5, 9, 3, 9, 1)\n";
        rule("Promise 15: of all STROKES of THE SHEET, 42 STEPS at most", "nib(2, 0)\n"
                + up + "wrong() = 7\n" + up + "wrong() = 14\n" + up.repeat(4) + "wrong() = 42\nmany(2) = 42\n"
                + "undo()\nwrong() = 35\nkeep(3)\nwrong() = 0\ntake(3)\nwrong() = 35\n");
    }
}
