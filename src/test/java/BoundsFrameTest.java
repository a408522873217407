/** What the document says of bounds in part 6 and in promises 30 to 35: a rule for each such sentence. */
public final class BoundsFrameTest {
    private static final Checks checks = new Checks("BoundsFrameTest");

    public static void main(String[] args) {
        frame();
        frameAnew();
        shootRefused();
        shootRows();
        rollRefused();
        rollBits();
        seen();
        spoil();
        manyRefused();
        manyAtTheirBounds();
        checks.end();
    }

    private static void rule(String rule, String text) {
        Script.rule(checks, rule, text);
    }

    private static void frame() {
        rule("Part 6: there is none at first", """
                seen(0) ! MISSING
                shoot(0, 0) ! MISSING
                roll(0, 0) ! MISSING
                spoil() ! NONE
                """);
        rule("Promise 30: OUTSIDE, n above 64", """
                frame(65) ! OUTSIDE
                frame(MAX) ! OUTSIDE
                frame(64) = 64
                seen(63) = 0
                seen(64) ! INDEX
                frame(65) ! OUTSIDE
                frame(MAX) ! OUTSIDE
                spoil() = 64
                """);
        rule("Promise 30: SIZE, a length below 0", """
                frame(-1) ! SIZE
                frame(MIN) ! SIZE
                frame(0) = 0
                frame(-1) ! SIZE
                frame(MIN) ! SIZE
                frame(3)
                frame(-1) ! SIZE
                frame(-9) ! SIZE
                spoil() = 3
                frame(-9) ! SIZE
                spoil() ! NONE
                """);
        rule("Part 6: it has 0 rows", """
                frame(0) = 0
                seen(0) ! INDEX
                shoot(0, 0) ! INDEX
                roll(0, 0) ! INDEX
                spoil() = 0
                spoil() ! NONE
                """);
    }

    private static void frameAnew() {
        rule("Promise 30: all 0, the first and the last row, too", """
                nib(6, 0)
                draw(6, 5)
                frame(64)
                shoot(0, 5) = 13
                shoot(63, 5) = 13
                frame(64) = 64
                seen(0) = 0
                seen(63) = 0
                shoot(1, 5)
                frame(1) = 1
                seen(0) = 0
                seen(1) ! INDEX
                frame(2) = 2
                seen(1) = 0
                shoot(1, 5) = 13
                spoil() = 2
                frame(2) = 2
                seen(1) = 0
                """);
    }

    private static void shootRefused() {
        rule("Promise 31: OUTSIDE, y 0 .. 31", """
                nib(0, 6)
                draw(3, 0, 3, 31)
                frame(2)
                shoot(0, 0) = 1
                shoot(1, 31) = 1
                shoot(0, -1) ! OUTSIDE
                shoot(0, 32) ! OUTSIDE
                shoot(0, MIN) ! OUTSIDE
                shoot(0, MAX) ! OUTSIDE
                """);
        rule("Promise 31: MISSING, there is no FRAME", """
                draw(3, 3)
                shoot(0, 3) ! MISSING
                shoot(-1, 3) ! MISSING
                shoot(64, 3) ! MISSING
                frame(2)
                shoot(0, 3) = 1
                spoil()
                shoot(0, 3) ! MISSING
                """);
        rule("Promise 31: INDEX, it has no such row", """
                draw(3, 3)
                frame(2)
                shoot(0, 3) = 1
                shoot(1, 3) = 1
                shoot(2, 3) ! INDEX
                shoot(63, 3) ! INDEX
                shoot(64, 3) ! INDEX
                shoot(-1, 3) ! INDEX
                shoot(MIN, 3) ! INDEX
                shoot(MAX, 3) ! INDEX
                frame(64)
                shoot(63, 3) = 1
                shoot(64, 3) ! INDEX
                """);
        rule("Promise 31: OUTSIDE, then MISSING, then INDEX", """
                shoot(0, 32) ! OUTSIDE
                shoot(-1, -1) ! OUTSIDE
                shoot(-1, 0) ! MISSING
                frame(1)
                shoot(1, 32) ! OUTSIDE
                shoot(1, 31) ! INDEX
                """);
    }

    private static void shootRows() {
        rule("Promise 31: of an empty sheet no bit is 1; a whole row has 32", """
                frame(2)
                shoot(0, 5) = 0
                seen(0) = 0
                nib(1, 0)
                draw(0, 5, 31, 5)
                seen(0) = 0 // as it was shot
                shoot(0, 5) = 32
                seen(0) = 4294967295
                seen(1) = 0
                shoot(0, 6) = 0 // in place of what it was
                seen(0) = 0
                shoot(0, 5)
                undo()
                seen(0) = 4294967295
                """);
        rule("Promise 31: of all STROKES of THE SHEET", """
                nib(1, 0)
                frame(1)
                draw(1, 5)
                draw(30, 5)
                shoot(0, 5) = 6
                seen(0) = 3758096391
                """);
    }

    private static void rollRefused() {
        rule("Promise 32: OUTSIDE, n 0 .. 31", """
                nib(1, 0)
                draw(0, 5, 31, 5)
                frame(1)
                shoot(0, 5)
                roll(0, -1) ! OUTSIDE
                roll(0, 32) ! OUTSIDE
                roll(0, 33) ! OUTSIDE
                roll(0, MIN) ! OUTSIDE
                roll(0, MAX) ! OUTSIDE
                roll(0, 0) ! 32
                roll(0, 31) = 1
                """);
        rule("Promise 32: MISSING, there is no FRAME", """
                roll(0, 0) ! MISSING
                roll(-1, 31) ! MISSING
                frame(1)
                roll(0, 0) = 0
                spoil()
                roll(0, 0) ! MISSING
                """);
        rule("Promise 32: INDEX, it has no such row", """
                frame(2)
                roll(0, 1) ! 0
                roll(1, 1) ! 0
                roll(2, 1) ! INDEX
                roll(63, 1) ! INDEX
                roll(64, 1) ! INDEX
                roll(-1, 1) ! INDEX
                roll(MIN, 1) ! INDEX
                roll(MAX, 1) ! INDEX
                frame(64)
                roll(63, 1) ! 0
                roll(64, 1) ! INDEX
                """);
        rule("Promise 32: OUTSIDE, then MISSING, then INDEX", """
                roll(0, 32) ! OUTSIDE
                roll(-1, -1) ! OUTSIDE
                roll(-1, 0) ! MISSING
                frame(1)
                roll(1, 32) ! OUTSIDE
                roll(1, 31) ! INDEX
                """);
    }

    private static void rollBits() {
        rule("Promise 32: bit x what bit x + n was", """
                nib(1, 0)
                draw(5, 5)
                draw(9, 5)
                frame(3)
                shoot(1, 5) = 6
                seen(1) = ....###.###
                roll(1, 4) = 6
                seen(1) = ###.###
                roll(1, 1) = 5 // bit 0 is gone
                seen(1) = ##.###
                roll(1, 31) = 0
                seen(1) = 0
                seen(0) = 0
                seen(2) = 0
                """);
        rule("Promise 32: 0, if x + n is above 31; bit 31 is no sign", """
                nib(1, 0)
                draw(0, 5, 31, 5)
                frame(1)
                shoot(0, 5) = 32
                roll(0, 1) = 31
                seen(0) = 2147483647
                roll(0, 30) = 1
                seen(0) = 1
                shoot(0, 5)
                roll(0, 31) = 1
                seen(0) = 1
                shoot(0, 5)
                roll(0, 16) = 16
                seen(0) = 65535
                ink(-1, 5) = 4294967295 // the ink stays
                """);
    }

    private static void seen() {
        rule("Promise 33: MISSING, there is no FRAME", """
                seen(0) ! MISSING
                seen(-1) ! MISSING
                seen(64) ! MISSING
                frame(1)
                seen(0) ! 0
                spoil()
                seen(0) ! MISSING
                """);
        rule("Promise 33: INDEX, it has no such row", """
                frame(2)
                seen(0) ! 0
                seen(1) ! 0
                seen(2) ! INDEX
                seen(63) ! INDEX
                seen(64) ! INDEX
                seen(-1) ! INDEX
                seen(MIN) ! INDEX
                seen(MAX) ! INDEX
                frame(64)
                seen(63) ! 0
                seen(64) ! INDEX
                """);
        rule("Part 6: a row is told as a number without a sign", """
                nib(0, 1)
                draw(31, 5)
                frame(1)
                shoot(0, 5) = 1
                seen(0) = 2147483648
                roll(0, 0) = 1
                seen(0) = 2147483648
                """);
    }

    private static void spoil() {
        rule("Promise 34: NONE, there was none", """
                spoil() ! NONE
                frame(64)
                spoil() = 64
                spoil() ! NONE
                frame(0)
                spoil() = 0
                spoil() ! NONE
                frame(9) // as many as NONE is below 0
                spoil() = 9
                spoil() ! NONE
                """);
    }

    private static void manyRefused() {
        rule("Promise 35: OUTSIDE, what is 0 .. 5", """
                many(0) ! 0
                many(5) ! 4
                many(6) ! OUTSIDE
                many(-1) ! OUTSIDE
                many(MIN) ! OUTSIDE
                many(MAX) ! OUTSIDE
                """);
    }

    private static void manyAtTheirBounds() {
        rule("Promise 35: POINTS on THE LINE, 0 to 8", """
                many(0) = 0
                point(1, 1)
                many(0) = 1
                point(1, 1) ! STATE
                many(0) = 1
                point(2, 1)
                point(3, 1)
                point(4, 1)
                point(5, 1)
                point(6, 1)
                point(7, 1)
                point(8, 1)
                many(0) = 8
                point(9, 1) ! FULL
                many(0) = 8
                lift()
                many(0) = 0
                many(2) = 7
                """);
        rule("Promise 35: STROKES of THE SHEET and STEPS of all of these", """
                draw(1, 1)
                many(1) = 1
                many(2) = 0 // one point has none
                draw(1, 1, 2, 2)
                many(1) = 2
                many(2) = 1
                draw(1, 1, 2, 2, 3, 3)
                many(2) = 3
                point(5, 5)
                point(6, 6)
                many(2) = 3 // the line has none yet
                undo()
                many(2) = 1
                keep(3)
                many(1) = 0
                many(2) = 0
                """);
        rule("Promise 35: LETTERS, 0 to 10", "many(3) = 0\n" + BoundsLettersTest.TEN_LETTERS + """
                many(3) = 10
                many(4) = 1 // all are alike
                draw(9, 9, 9, 12)
                keep(1) ! FULL
                many(3) = 10
                many(4) = 2
                forget(0)
                many(3) = 9
                """);
        rule("Promise 35: LIMIT, 1 to 20", """
                limit(1)
                many(5) = 1
                limit(20)
                many(5) = 20
                """);
    }
}
