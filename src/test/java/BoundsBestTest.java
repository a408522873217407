/** What the document says of bounds in part 5 and in promises 28 and 29: a rule for each such sentence. */
public final class BoundsBestTest {
    private static final Checks checks = new Checks("BoundsBestTest");

    public static void main(String[] args) {
        bestNibRefused();
        bestNibOfSeveral();
        bestNibAtItsBounds();
        bestNibCounts();
        bestLimitRefused();
        bestLimitOfSeveral();
        bestLimitAtItsBounds();
        checks.end();
    }

    private static void rule(String rule, String text) {
        Script.rule(checks, rule, text);
    }

    private static void bestNibRefused() {
        rule("Promise 28: OUTSIDE, what is 0 .. 2", """
                draw(10, 4, 10, 12)
                bestNib(0) ! 2
                bestNib(1) ! -6
                bestNib(2) ! 0
                bestNib(3) ! OUTSIDE
                bestNib(-1) ! OUTSIDE
                bestNib(MIN) ! OUTSIDE
                bestNib(MAX) ! OUTSIDE
                """);
    }

    private static void bestNibOfSeveral() {
        rule("Part 5: of several the one of the least u, then of the least v: no STEPS at all", """
                bestNib(0) ! 0
                bestNib(1) ! -6
                bestNib(2) ! 0
                draw(9, 9)
                bestNib(0) ! 0
                bestNib(1) ! -6
                bestNib(2) ! 0
                """);
        rule("Part 5: of several the one of the least u", """
                limit(1)
                draw(10, 4, 10, 12) // down: u 1 .. 6 will do
                bestNib(0) = 1
                bestNib(1) = -6
                bestNib(2) = 0
                limit(3)
                bestNib(0) = 2
                limit(12) // 144: u 6 will do
                bestNib(0) = 6
                bestNib(1) = -6
                bestNib(2) = 0
                limit(13) // none will
                bestNib(0) = 0
                bestNib(1) = -6
                bestNib(2) = 1
                """);
        rule("Part 5: then of the least v", """
                limit(1)
                draw(10, 10, 18, 11, 19, 3) // down (8, 1), up (1, -8)
                bestNib(0) = 0
                bestNib(1) = -4 // u 0: of (1, -8) TWIST is v, which must stay within 4
                bestNib(2) = 0
                """);
    }

    private static void bestNibAtItsBounds() {
        rule("Part 5: u 6 and v 6, the last NIB of all", """
                limit(16)
                draw(20, 4, 10, 14) // 288 with (6, 6) alone
                bestNib(0) = 6
                bestNib(1) = 6
                bestNib(2) = 0
                limit(17)
                bestNib(0) = 0
                bestNib(1) = -6
                bestNib(2) = 1
                """);
        rule("Part 5: u 6 and v -6", """
                limit(16)
                draw(10, 4, 20, 14)
                bestNib(0) = 6
                bestNib(1) = -6
                bestNib(2) = 0
                """);
        rule("Part 5: v 0, but never both 0", """
                limit(1)
                draw(10, 4, 10, 12, 18, 11, 10, 10)
                bestNib(0) = 1 // up (8, -1), (-8, -1) with (1, 0)
                bestNib(1) = 0
                bestNib(2) = 0
                undo()
                draw(10, 20, 10, 12, 18, 11) // up (0, -8), (8, -1)
                bestNib(2) = 1 // with (0, 0) none would be wrong
                bestNib(0) = 0
                bestNib(1) = -6
                """);
    }

    private static void bestNibCounts() {
        rule("Part 5: were it that of all STROKES of THE SHEET; nothing is changed by it", """
                nib(0, 6)
                draw(10, 4, 10, 12)
                nib(1, 0)
                draw(20, 4, 20, 12)
                wrong() = 2
                bestNib(0) ! 2
                bestNib(1) ! -6
                bestNib(2) ! 0
                """);
        rule("Part 5: by LIMIT as it is", """
                draw(10, 4, 10, 12)
                limit(1)
                bestNib(0) = 1
                limit(20)
                bestNib(2) = 1
                limit(4)
                bestNib(0) = 2
                """);
        // four down, three up, the same way: all of one or all of the other are WRONG
        String downUp = "draw(9, 13, 9, 15, 9, 13, 9, 15, 9, 13, 9, 15, 9, 13, 9, 15)\n";
        rule("Part 5: of all STROKES, six of seven STEPS", downUp.repeat(6)
                + "bestNib(2) = 18\nbestNib(0) = 2\nbestNib(1) = -6\nlimit(20)\nbestNib(2) = 24\nbestNib(0) = 0\n");
    }

    private static void bestLimitRefused() {
        rule("Promise 29: OUTSIDE, what is 0 or 1", """
                nib(3, 0)
                draw(10, 12, 10, 4)
                bestLimit(0) ! 7
                bestLimit(1) ! 0
                bestLimit(2) ! OUTSIDE
                bestLimit(-1) ! OUTSIDE
                bestLimit(MIN) ! OUTSIDE
                bestLimit(MAX) ! OUTSIDE
                """);
    }

    private static void bestLimitOfSeveral() {
        rule("Part 5: of several the least: no STEPS at all", """
                bestLimit(0) ! 1
                bestLimit(1) ! 0
                draw(9, 9)
                bestLimit(0) ! 1
                bestLimit(1) ! 0
                """);
        rule("Part 5: BEST LIMIT, of several the least", """
                nib(3, 0)
                draw(10, 4, 10, 12) // down: FULL up to 6
                bestLimit(0) = 1
                bestLimit(1) = 0
                nib(2, 0)
                draw(20, 12, 20, 4) // up: FULL up to 4
                bestLimit(0) = 5
                bestLimit(1) = 0
                nib(5, 0)
                draw(20, 12, 20, 4) // up: FULL up to 10
                bestLimit(0) = 5
                bestLimit(1) = 1
                nib(0, 1)
                draw(20, 4, 20, 12) // down, HAIR by any
                bestLimit(0) = 5
                bestLimit(1) = 2
                """);
        rule("Part 5: of the same number of WRONG ones the least, though one more is right and one more is not", """
                nib(2, 0)
                draw(10, 4, 10, 12) // down: FULL up to 4
                nib(3, 0)
                draw(10, 12, 10, 4) // up: FULL up to 6
                bestLimit(0) = 1
                bestLimit(1) = 1
                """);
    }

    private static void bestLimitAtItsBounds() {
        rule("Part 5: LIMIT 1, and the next one", """
                nib(1, 0)
                draw(10, 12, 13, 11) // up, 4 of 10: FULL by none
                bestLimit(0) = 1
                bestLimit(1) = 0
                draw(10, 12, 13, 8) // up, 64 of 25: FULL by 1 alone
                bestLimit(0) = 2
                bestLimit(1) = 0
                draw(20, 4, 23, 8) // down, as thick
                draw(20, 4, 23, 8)
                bestLimit(0) = 1
                bestLimit(1) = 1
                """);
        rule("Part 5: the greatest LIMIT that any STEP asks for", """
                nib(6, 6)
                draw(4, 12, 12, 4) // up, 288: FULL up to 16
                bestLimit(0) = 17
                bestLimit(1) = 0
                """);
        rule("Part 5: the LIMIT that there is does not count, and stays", """
                nib(3, 0)
                draw(10, 12, 10, 4)
                limit(20)
                bestLimit(0) ! 7
                bestLimit(1) ! 0
                limit(1)
                bestLimit(0) ! 7
                bestLimit(1) ! 0
                """);
        String hairs = "draw(9, 1, 9, 3, 9, 5, 9, 7, 9, 9, 9, 11, 9, 13, 9, 15)\n";
        rule("Part 5: 42 STEPS that are WRONG by any LIMIT", "nib(0, 1)\n" + hairs.repeat(6)
                + "bestLimit(0) = 1\nbestLimit(1) = 42\nbestNib(2) = 0\n");
    }
}
