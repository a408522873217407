/**
 * Terms: "they change nothing". Each refusal and each fault of each call, and each call that only asks, is tried on
 * an object that has something of all that there is, and on one that is full.
 */
public final class BoundsRefusalsTest {
    private static final Checks checks = new Checks("BoundsRefusalsTest");
    private static final String SOME = """
            nib(3, 1)
            limit(5)
            draw(9, 9, 12, 9)
            draw(20, 9)
            keep(0)
            draw(9, 20, 9, 25)
            keep(25)
            nib(1, -3)
            draw(11, 9, 14, 9, 14, 12)
            draw(5, 5)
            draw(5, 5, 9, 3)
            frame(3)
            shoot(0, 9)
            shoot(2, 5)
            nib(4, -1)
            limit(6)
            point(7, 7)
            point(8, 7)
            """;
    private static final String ALL = "nib(1, 2)\n" + BoundsLettersTest.TEN_LETTERS + """
            nib(3, 1)
            draw(9, 9)
            draw(10, 9)
            draw(11, 9, 11, 12)
            draw(12, 9)
            draw(13, 9)
            draw(14, 9)
            frame(64)
            shoot(0, 9)
            shoot(63, 9)
            limit(20)
            nib(6, 6)
            point(1, 7)
            point(2, 7)
            point(3, 7)
            point(4, 7)
            point(5, 7)
            point(6, 7)
            point(7, 7)
            point(8, 7)
            """;
    private static final String NONE = "";

    public static void main(String[] args) {
        strokes();
        asksOfStrokes();
        letters();
        asksOfLetters();
        frame();
        full();
        empty();
        checks.end();
    }

    /** Each call on an object of its own; a call is told as Script has it, with a ! ahead of what is due. */
    private static void each(String told, String state, String calls) {
        for (String call : calls.split("\n")) {
            Script.rule(checks, "Terms: refusals change nothing, " + told, state + call + "\n");
        }
    }

    private static void strokes() {
        each("some", SOME, """
                nib(-1, 2) ! OUTSIDE
                nib(7, 2) ! OUTSIDE
                nib(2, -7) ! OUTSIDE
                nib(2, 7) ! OUTSIDE
                nib(0, 0) ! STATE
                point(-1, 2) ! OUTSIDE
                point(32, 2) ! OUTSIDE
                point(2, -1) ! OUTSIDE
                point(2, 32) ! OUTSIDE
                point(8, 7) ! STATE
                limit(0) ! OUTSIDE
                limit(21) ! OUTSIDE
                limit(6) ! 6
                """);
    }

    private static void asksOfStrokes() {
        each("some", SOME, """
                ofNib(0) ! 4
                ofNib(1) ! -1
                ofNib(2) ! OUTSIDE
                ofStroke(3, 0) ! UNKNOWN
                ofStroke(0, 5) ! OUTSIDE
                ofStroke(0, 3) ! 2
                ofStroke(0, 4) ! 1
                place(3, 0, 0) ! UNKNOWN
                place(0, 3, 0) ! UNKNOWN
                place(0, 0, 2) ! OUTSIDE
                place(0, 2, 1) ! 12
                ink(3, 0) ! UNKNOWN
                ink(0, 32) ! OUTSIDE
                ink(-1, 2) ! ......####
                area(3) ! UNKNOWN
                area(1) ! 3
                thick(3, 0, 0) ! UNKNOWN
                thick(0, 2, 0) ! UNKNOWN
                thick(0, 0, 2) ! OUTSIDE
                thick(0, 1, 0) ! 4
                sort(3, 0) ! UNKNOWN
                sort(0, 2) ! UNKNOWN
                sort(0, 0) ! 2
                wrong() ! 1
                join(0, 3) ! UNKNOWN
                join(3, 0) ! UNKNOWN
                join(2, 2) ! STATE
                join(1, 2) ! 3
                join(0, 1) ! 0
                pieces(2) ! OUTSIDE
                pieces(1) ! 0
                many(6) ! OUTSIDE
                many(2) ! 3
                many(4) ! 4
                bestNib(3) ! OUTSIDE
                bestNib(2) ! 0
                bestLimit(2) ! OUTSIDE
                bestLimit(1) ! 1
                """);
    }

    private static void letters() {
        each("some", SOME, """
                keep(-1) ! OUTSIDE
                keep(26) ! OUTSIDE
                take(1) ! UNKNOWN
                take(26) ! UNKNOWN
                take(-1) ! UNKNOWN
                forget(24) ! UNKNOWN
                forget(26) ! UNKNOWN
                forget(-1) ! UNKNOWN
                """);
    }

    private static void asksOfLetters() {
        each("some", SOME, """
                name(10) ! OUTSIDE
                name(-1) ! OUTSIDE
                name(2) ! NONE
                name(1) ! 25
                ofLetter(1, 0) ! UNKNOWN
                ofLetter(0, 7) ! OUTSIDE
                ofLetter(25, 0) ! 1
                ofLetter(0, 4) ! 2
                ofLetter(25, 6) ! 12
                kind(3) ! UNKNOWN
                kind(1) ! 0
                kind(0) ! 3
                apart(1, 0, 0) ! UNKNOWN
                apart(0, 32, 0) ! OUTSIDE
                apart(0, 0, -32) ! OUTSIDE
                fit(1, 0) ! UNKNOWN
                fit(0, 3) ! OUTSIDE
                likest(2) ! OUTSIDE
                lesson(10, 0) ! OUTSIDE
                lesson(0, 2) ! OUTSIDE
                lesson(2, 0) ! NONE
                lesson(0, 0) ! 25
                lesson(1, 0) ! 0
                lesson(1, 1) ! 2
                """);
    }

    private static void frame() {
        each("some", SOME, """
                frame(65) ! OUTSIDE
                frame(-1) ! SIZE
                frame(-9) ! SIZE
                shoot(0, 32) ! OUTSIDE
                shoot(0, -1) ! OUTSIDE
                shoot(3, 0) ! INDEX
                shoot(-1, 0) ! INDEX
                roll(0, 32) ! OUTSIDE
                roll(0, -1) ! OUTSIDE
                roll(3, 0) ! INDEX
                roll(-1, 0) ! INDEX
                seen(3) ! INDEX
                seen(-1) ! INDEX
                seen(1) ! 0
                """);
        each("some, but no frame", SOME + "spoil() = 3\n", """
                frame(65) ! OUTSIDE
                frame(-1) ! SIZE
                shoot(0, 0) ! MISSING
                roll(0, 0) ! MISSING
                seen(0) ! MISSING
                spoil() ! NONE
                """);
    }

    private static void full() {
        each("all", ALL, """
                nib(0, 0) ! STATE
                nib(7, 7) ! OUTSIDE
                point(8, 32) ! OUTSIDE
                point(8, 7) ! STATE
                point(9, 7) ! FULL
                lift() ! FULL
                keep(1) ! FULL
                keep(24) ! FULL
                keep(26) ! OUTSIDE
                take(24) ! UNKNOWN
                forget(24) ! UNKNOWN
                name(9) ! 25
                name(10) ! OUTSIDE
                lesson(9, 1) ! 0
                likest(2) ! OUTSIDE
                limit(21) ! OUTSIDE
                frame(65) ! OUTSIDE
                frame(-1) ! SIZE
                shoot(64, 9) ! INDEX
                roll(64, 1) ! INDEX
                seen(64) ! INDEX
                many(0) ! 8
                """);
        each("all, and no line", ALL + "drop() = 8\n", "lift() ! STATE");
    }

    private static void empty() {
        each("nothing", NONE, """
                drop() ! 0
                lift() ! STATE
                undo() ! STATE
                keep(0) ! STATE
                keep(26) ! OUTSIDE
                take(0) ! UNKNOWN
                forget(0) ! UNKNOWN
                name(0) ! NONE
                likest(0) ! NONE
                lesson(0, 0) ! NONE
                seen(0) ! MISSING
                spoil() ! NONE
                """);
        each("no sheet", SOME + "undo()\nundo()\nundo() = 0\n", """
                undo() ! STATE
                keep(0) ! STATE
                keep(1) ! STATE
                keep(26) ! OUTSIDE
                ofStroke(0, 0) ! UNKNOWN
                likest(0) ! 0
                likest(1) ! 15
                fit(25, 0) ! 38
                fit(25, 1) ! -3
                apart(0, 31, -31) ! 15
                bestNib(1) ! -6
                bestLimit(0) ! 1
                """);
        each("no line", SOME + "drop() = 2\n", """
                drop() ! 0
                lift() ! STATE
                """);
        each("no letters", SOME + "forget(0)\nforget(25) = 0\n", """
                take(0) ! UNKNOWN
                forget(25) ! UNKNOWN
                name(0) ! NONE
                likest(0) ! NONE
                likest(1) ! NONE
                lesson(0, 0) ! NONE
                lesson(0, 1) ! NONE
                """);
    }
}
