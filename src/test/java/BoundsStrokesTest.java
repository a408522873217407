/** What the document says of bounds in its head, in part 1 and in promises 1 to 11: a rule for each such sentence. */
public final class BoundsStrokesTest {
    private static final Checks checks = new Checks("BoundsStrokesTest");

    public static void main(String[] args) {
        head();
        refusals();
        newObject();
        nib();
        ofNib();
        pointOutside();
        pointOtherwiseRefused();
        drop();
        lift();
        undo();
        ofStroke();
        ofStrokeAtItsBounds();
        place();
        ink();
        inkAtItsEnds();
        inkOfPointsAndSteps();
        inkAtTheEdges();
        area();
        checks.end();
    }

    private static void rule(String rule, String text) {
        Script.rule(checks, rule, text);
    }

    private static void head() {
        rule("Head: an object is used for at most 512 calls (the last of them is answered, too)",
                "point(1, 1)\nlift()\nkeep(0)\n".repeat(170) + "many(3) = 1\nmany(4) = 1\n");
        rule("Head: 512 calls, all of them points of the line",
                "point(0, 0)\npoint(0, 1)\n".repeat(255) + "drop() = 8\npoint(0, 0) = 1\n");
    }

    private static void refusals() {
        rule("Terms: what is told of INK is as STROKES are when it is asked", """
                nib(1, 0)
                draw(4, 4)
                ink(-1, 4) = ...###
                draw(8, 4)
                ink(-1, 4) = ...###.###
                undo()
                ink(-1, 4) = ...###
                keep(3)
                ink(-1, 4) = 0
                take(3)
                ink(-1, 4) = ...###
                """);
        rule("Terms: what is told of SORTS and KINDS is as LIMIT is when it is asked", """
                nib(3, 0)
                draw(4, 4, 4, 9, 7, 10) // full, thin
                sort(0, 1) = 1
                ofStroke(0, 3) = 2
                limit(1) = 4
                sort(0, 1) = 2
                ofStroke(0, 3) = 1
                keep(5)
                ofLetter(5, 4) = 1
                draw(4, 4, 9, 4) // hair
                kind(0) = 0
                many(4) = 2
                limit(4)
                many(4) = 2
                draw(4, 4, 9, 4, 4, 4, 7, 5) // hair, thin
                kind(1) = 1
                kind(0) = 0
                many(4) = 3
                limit(1)
                kind(1) = 2 // hair, full: behind full alone
                forget(5)
                kind(1) = 1
                """);
    }

    private static void newObject() {
        rule("Promise 1: THE LINE is empty", """
                many(0) ! 0
                drop() ! 0
                lift() ! STATE
                """);
        rule("Promise 1: THE SHEET is empty", """
                many(1) ! 0
                many(2) ! 0
                many(4) ! 0
                undo() ! STATE
                keep(0) ! STATE
                area(-1) ! 0
                ink(-1, 0) ! 0
                ink(-1, 31) ! 0
                wrong() ! 0
                pieces(0) ! 0
                pieces(1) ! 0
                area(0) ! UNKNOWN
                ofStroke(0, 0) ! UNKNOWN
                """);
        rule("Promise 1: there are no LETTERS", """
                many(3) ! 0
                name(0) ! NONE
                likest(0) ! NONE
                likest(1) ! NONE
                lesson(0, 0) ! NONE
                lesson(0, 1) ! NONE
                take(0) ! UNKNOWN
                forget(0) ! UNKNOWN
                """);
        rule("Part 1: NIB is (2, -2) at first", """
                ofNib(0) ! 2
                ofNib(1) ! -2
                draw(5, 5) = 0
                ofStroke(0, 1) = 2
                ofStroke(0, 2) = -2
                """);
    }

    private static void nib() {
        rule("Promise 2: OUTSIDE, u 0 .. 6", """
                nib(0, 3) = 1
                ofNib(0) = 0
                nib(6, 3) = 1
                ofNib(0) = 6
                nib(-1, 3) ! OUTSIDE
                nib(7, 3) ! OUTSIDE
                nib(MIN, 3) ! OUTSIDE
                nib(MAX, 3) ! OUTSIDE
                """);
        rule("Promise 2: OUTSIDE, v -6 .. 6", """
                nib(3, -6) = 1
                ofNib(1) = -6
                nib(3, 6) = 1
                ofNib(1) = 6
                nib(3, -7) ! OUTSIDE
                nib(3, 7) ! OUTSIDE
                nib(3, MIN) ! OUTSIDE
                nib(3, MAX) ! OUTSIDE
                nib(0, 7) ! OUTSIDE
                nib(-1, 0) ! OUTSIDE
                """);
        rule("Promise 2: STATE, both are 0", """
                nib(0, 0) ! STATE
                nib(0, 1) = 1
                nib(0, 0) ! STATE
                nib(1, 0) = 1
                nib(0, 0) ! STATE
                nib(0, -1) = 1
                ofNib(0) = 0
                ofNib(1) = -1
                """);
    }

    private static void ofNib() {
        rule("Promise 3: OUTSIDE, what is 0 or 1", """
                nib(5, -4)
                ofNib(0) ! 5
                ofNib(1) ! -4
                ofNib(-1) ! OUTSIDE
                ofNib(2) ! OUTSIDE
                ofNib(MIN) ! OUTSIDE
                ofNib(MAX) ! OUTSIDE
                """);
    }

    private static void pointOutside() {
        rule("Part 1: places of THE FIELD, x 0 .. 31", """
                point(0, 7) = 1
                point(31, 7) = 2
                point(-1, 7) ! OUTSIDE
                point(32, 7) ! OUTSIDE
                point(MIN, 7) ! OUTSIDE
                point(MAX, 7) ! OUTSIDE
                """);
        rule("Part 1: places of THE FIELD, y 0 .. 31", """
                point(7, 0) = 1
                point(7, 31) = 2
                point(7, -1) ! OUTSIDE
                point(7, 32) ! OUTSIDE
                point(7, MIN) ! OUTSIDE
                point(7, MAX) ! OUTSIDE
                """);
    }

    private static void pointOtherwiseRefused() {
        rule("Promise 4: STATE, it is the same as the one ahead", """
                point(0, 0) = 1 // nothing is ahead
                point(0, 0) ! STATE
                point(0, 1) = 2
                point(0, 1) ! STATE
                point(1, 1) = 3
                point(0, 1) = 4 // as one that is not just ahead
                point(0, 1) ! STATE
                point(0, 0) = 5
                """);
        rule("Promise 4: on an empty line nothing is ahead", """
                draw(9, 9) = 0
                point(9, 9) = 1
                drop() = 1
                point(9, 9) = 1
                """);
        rule("Promise 4: FULL, 8 POINTS at most", """
                point(1, 0) = 1
                point(2, 0) = 2
                point(3, 0) = 3
                point(4, 0) = 4
                point(5, 0) = 5
                point(6, 0) = 6
                point(7, 0) = 7
                point(8, 0) = 8
                point(9, 0) ! FULL
                point(1, 0) ! FULL
                point(8, 1) ! FULL
                drop() = 8
                point(9, 0) = 1
                """);
        rule("Promise 4: of a full line OUTSIDE is first, then STATE, then FULL", """
                point(1, 0)
                point(2, 0)
                point(1, 0)
                point(2, 0)
                point(1, 0)
                point(2, 0)
                point(1, 0)
                point(2, 0) = 8
                point(2, 32) ! OUTSIDE
                point(2, 0) ! STATE
                point(1, 0) ! FULL
                lift() = 0
                place(0, 7, 0) = 2
                point(1, 0) = 1
                """);
    }

    private static void drop() {
        rule("Promise 5: of an empty line there were none", """
                drop() ! 0
                point(4, 4)
                drop() = 1
                drop() ! 0
                lift() ! STATE
                """);
        rule("Promise 5: of a full line there were 8; nothing else goes", """
                draw(3, 3)
                keep(2)
                draw(4, 4)
                nib(1, 1)
                point(0, 0)
                point(1, 0)
                point(2, 0)
                point(3, 0)
                point(4, 0)
                point(5, 0)
                point(6, 0)
                point(7, 0)
                drop() = 8
                many(0) = 0
                many(1) = 1
                many(3) = 1
                ofNib(1) = 1
                """);
    }

    private static void lift() {
        rule("Promise 6: STATE, it is empty", """
                lift() ! STATE
                point(4, 4)
                lift() = 0
                lift() ! STATE
                many(1) = 1
                """);
        rule("Promise 6: FULL, 6 STROKES at most, numbered from 0 on as they came", """
                draw(1, 5) = 0
                draw(2, 5) = 1
                draw(3, 5) = 2
                draw(4, 5) = 3
                draw(5, 5) = 4
                draw(6, 5) = 5
                point(7, 5)
                point(8, 5)
                lift() ! FULL
                many(0) = 2
                undo() = 5
                lift() = 5
                place(0, 0, 0) = 1
                place(4, 0, 0) = 5
                place(5, 0, 0) = 7
                place(5, 1, 0) = 8
                """);
        rule("Promise 6: STATE is ahead of FULL", """
                draw(1, 5)
                draw(2, 5)
                draw(3, 5)
                draw(4, 5)
                draw(5, 5)
                draw(6, 5)
                lift() ! STATE
                """);
        rule("Promise 6: a line of 1 and a line of 8 points; it is empty then", """
                point(9, 9)
                lift() = 0
                many(0) = 0
                ofStroke(0, 0) = 1
                draw(0, 0, 1, 0, 2, 0, 3, 0, 4, 0, 5, 0, 6, 0, 7, 0) = 1
                many(0) = 0
                ofStroke(1, 0) = 8
                place(1, 0, 0) = 0
                place(1, 7, 0) = 7
                """);
        rule("Part 1: LIFTED with the NIB that there is then", """
                nib(6, 0)
                point(9, 9)
                nib(0, 4)
                lift() = 0
                nib(1, -1)
                ofStroke(0, 1) = 0
                ofStroke(0, 2) = 4
                area(0) = 9
                """);
    }

    private static void undo() {
        rule("Promise 7: STATE, there is none", """
                undo() ! STATE
                draw(3, 3)
                undo() = 0
                undo() ! STATE
                draw(3, 3) = 0
                keep(1)
                undo() ! STATE
                """);
        rule("Promise 7: the last STROKE, from six down to none", """
                draw(1, 5)
                draw(2, 5)
                draw(3, 5)
                draw(4, 5)
                draw(5, 5)
                draw(6, 5)
                undo() = 5
                ofStroke(5, 0) ! UNKNOWN
                place(4, 0, 0) = 5
                undo() = 4
                undo() = 3
                undo() = 2
                undo() = 1
                place(0, 0, 0) = 1
                ofStroke(1, 0) ! UNKNOWN
                undo() = 0
                area(-1) = 0
                """);
        rule("Promise 7: the line and the letters stay", """
                draw(1, 5)
                keep(4)
                take(4)
                point(2, 2)
                undo() = 0
                many(0) = 1
                ofLetter(4, 0) = 1
                """);
    }

    private static void ofStroke() {
        rule("Promise 8: UNKNOWN, there is no such STROKE", """
                ofStroke(0, 0) ! UNKNOWN
                draw(1, 5)
                draw(2, 5, 3, 5)
                ofStroke(0, 0) ! 1
                ofStroke(1, 0) ! 2
                ofStroke(2, 0) ! UNKNOWN
                ofStroke(5, 0) ! UNKNOWN
                ofStroke(6, 0) ! UNKNOWN
                ofStroke(-1, 0) ! UNKNOWN
                ofStroke(MIN, 0) ! UNKNOWN
                ofStroke(MAX, 0) ! UNKNOWN
                """);
        rule("Promise 8: OUTSIDE, what is 0 .. 4", """
                nib(3, 1)
                draw(10, 5, 10, 1)
                ofStroke(0, 0) ! 2
                ofStroke(0, 1) ! 3
                ofStroke(0, 2) ! 1
                ofStroke(0, 3) ! 1
                ofStroke(0, 4) ! 1
                ofStroke(0, 5) ! OUTSIDE
                ofStroke(0, -1) ! OUTSIDE
                ofStroke(0, MIN) ! OUTSIDE
                ofStroke(0, MAX) ! OUTSIDE
                """);
        rule("Promise 8: UNKNOWN is ahead of OUTSIDE", """
                ofStroke(0, 5) ! UNKNOWN
                draw(1, 5)
                ofStroke(1, -1) ! UNKNOWN
                ofStroke(-1, 5) ! UNKNOWN
                """);
    }

    private static void ofStrokeAtItsBounds() {
        rule("Promise 8: no STEPS, no SORTS, none WRONG", """
                draw(9, 9)
                ofStroke(0, 0) = 1
                ofStroke(0, 3) = 0
                ofStroke(0, 4) = 0
                """);
        rule("Promise 8: seven SORTS in a KIND at most", """
                nib(3, 0)
                draw(5, 1, 5, 3, 9, 3, 9, 5, 5, 5, 5, 7, 9, 7, 9, 9) // full, hair, full ..
                ofStroke(0, 3) = 7
                ofStroke(0, 4) = 0
                draw(5, 1, 5, 3, 5, 5, 5, 7, 5, 9, 5, 11, 5, 13, 5, 15)
                ofStroke(1, 3) = 1
                """);
        rule("Promise 8: seven STEPS that are WRONG at most", """
                nib(3, 0)
                draw(5, 15, 5, 13, 5, 11, 5, 9, 5, 7, 5, 5, 5, 3, 5, 1)
                ofStroke(0, 4) = 7
                limit(7)
                ofStroke(0, 4) = 0
                draw(5, 1, 5, 3, 5, 5, 5, 7, 5, 9, 5, 11, 5, 13, 5, 15)
                ofStroke(1, 4) = 7
                """);
    }

    private static void place() {
        rule("Promise 9: UNKNOWN, there is no such STROKE", """
                place(0, 0, 0) ! UNKNOWN
                draw(11, 5)
                place(0, 0, 0) ! 11
                place(1, 0, 0) ! UNKNOWN
                place(5, 0, 0) ! UNKNOWN
                place(6, 0, 0) ! UNKNOWN
                place(-1, 0, 0) ! UNKNOWN
                place(MIN, 0, 0) ! UNKNOWN
                place(MAX, 0, 0) ! UNKNOWN
                """);
        rule("Promise 9: UNKNOWN, there is no such POINT", """
                draw(1, 2, 3, 4, 5, 6, 7, 8, 9, 10, 11, 12, 13, 14, 15, 16)
                draw(20, 21)
                place(0, 0, 0) ! 1
                place(0, 7, 0) ! 15
                place(0, 7, 1) ! 16
                place(0, 8, 0) ! UNKNOWN
                place(0, -1, 0) ! UNKNOWN
                place(0, MIN, 0) ! UNKNOWN
                place(0, MAX, 0) ! UNKNOWN
                place(1, 0, 1) ! 21
                place(1, 1, 0) ! UNKNOWN // that the line ahead had, and this one has not
                place(1, 7, 0) ! UNKNOWN
                """);
        rule("Promise 9: OUTSIDE, what is 0 or 1", """
                draw(11, 5)
                place(0, 0, 0) ! 11
                place(0, 0, 1) ! 5
                place(0, 0, 2) ! OUTSIDE
                place(0, 0, -1) ! OUTSIDE
                place(0, 0, MIN) ! OUTSIDE
                place(0, 0, MAX) ! OUTSIDE
                """);
        rule("Promise 9: UNKNOWN is ahead of OUTSIDE", """
                place(0, 0, 2) ! UNKNOWN
                draw(11, 5)
                place(0, 1, 2) ! UNKNOWN
                place(1, 0, -1) ! UNKNOWN
                """);
    }

    private static void ink() {
        rule("Promise 10: UNKNOWN, there is no such STROKE; -1 is all", """
                ink(0, 5) ! UNKNOWN
                ink(-1, 5) ! 0
                nib(1, 0)
                draw(11, 5)
                ink(0, 5) ! ..........###
                ink(-1, 5) ! ..........###
                ink(1, 5) ! UNKNOWN
                ink(6, 5) ! UNKNOWN
                ink(-2, 5) ! UNKNOWN
                ink(MIN, 5) ! UNKNOWN
                ink(MAX, 5) ! UNKNOWN
                """);
        rule("Promise 10: OUTSIDE, y 0 .. 31", """
                nib(0, 6)
                draw(0, 0, 0, 31)
                ink(0, 0) ! 1
                ink(0, 31) ! 1
                ink(0, -1) ! OUTSIDE
                ink(0, 32) ! OUTSIDE
                ink(0, MIN) ! OUTSIDE
                ink(0, MAX) ! OUTSIDE
                ink(-1, -1) ! OUTSIDE
                ink(-1, 32) ! OUTSIDE
                """);
        rule("Promise 10: UNKNOWN is ahead of OUTSIDE", """
                ink(0, 32) ! UNKNOWN
                ink(-2, -1) ! UNKNOWN
                ink(-1, 32) ! OUTSIDE
                """);
        rule("Part 6: a row is told as a number without a sign, 0 .. 4294967295", """
                nib(1, 0)
                draw(0, 3, 31, 3)
                draw(31, 9)
                nib(0, 1)
                draw(31, 20)
                ink(0, 2) = 0
                ink(0, 3) = 4294967295
                ink(1, 9) = 3221225472
                ink(2, 20) = 2147483648
                ink(-1, 20) = 2147483648
                ink(-1, 3) = 4294967295
                """);
    }

    private static void inkAtItsEnds() {
        rule("Part 1: from the point moved by (u, v) to the point moved by (-u, -v), both of these, too", """
                nib(3, 0)
                draw(10, 5)
                ink(0, 5) = .......#######
                area(0) = 7
                nib(0, 3)
                draw(20, 10)
                ink(1, 6) = 0
                ink(1, 7) = ....................#
                ink(1, 13) = ....................#
                ink(1, 14) = 0
                nib(6, -6)
                draw(10, 20)
                ink(2, 13) = 0
                ink(2, 14) = ................#
                ink(2, 26) = ....#
                ink(2, 27) = 0
                area(2) = 13
                nib(6, 5)
                draw(10, 20)
                ink(3, 15) = ....#
                ink(3, 20) = ..........#
                ink(3, 25) = ................#
                area(3) = 3 // between these the nib covers no place
                """);
        rule("Part 1: midst at some point of the line between both POINTS, these, too", """
                nib(0, 1)
                draw(5, 5, 9, 5)
                ink(0, 4) = .....#####
                ink(0, 6) = .....#####
                area(0) = 15
                nib(1, 0)
                draw(9, 12, 9, 10)
                ink(1, 9) = 0
                ink(1, 10) = ........###
                ink(1, 12) = ........###
                ink(1, 13) = 0
                """);
        rule("Part 1: be it no place", """
                nib(0, 1)
                draw(10, 10, 12, 11)
                ink(0, 9) = ..........#
                ink(0, 10) = ..........###
                ink(0, 11) = ..........###
                ink(0, 12) = ............#
                area(0) = 8
                nib(1, 0)
                draw(20, 10, 21, 13) // midst at 20 1/3, 20 2/3 on the way
                ink(1, 10) = ...................###
                ink(1, 11) = ....................##
                ink(1, 12) = ....................##
                ink(1, 13) = ....................###
                """);
        rule("Part 1: a place that the very edge of what is covered goes through", """
                nib(1, 1)
                draw(10, 10, 14, 10)
                ink(0, 9) = .........#####
                ink(0, 10) = ..........#####
                ink(0, 11) = ...........#####
                nib(2, 1)
                draw(10, 20, 11, 22) // from (8, 19), (12, 21) to (9, 21), (13, 23)
                ink(1, 18) = 0
                ink(1, 19) = ........#
                ink(1, 20) = .........##
                ink(1, 21) = .........####
                ink(1, 22) = ...........##
                ink(1, 23) = .............#
                ink(1, 24) = 0
                """);
    }

    private static void inkOfPointsAndSteps() {
        rule("Part 1: of one with one POINT alone, the places that the NIB covers with its midst there", """
                draw(10, 10)
                ink(0, 7) = 0
                ink(0, 8) = ............#
                ink(0, 9) = ...........#
                ink(0, 10) = ..........#
                ink(0, 11) = .........#
                ink(0, 12) = ........#
                ink(0, 13) = 0
                """);
        rule("Part 1: a step along the nib inks one line", """
                nib(2, 1)
                draw(10, 10, 14, 12)
                area(0) = 5
                ink(0, 9) = ........#
                ink(0, 13) = ................#
                draw(14, 12, 10, 10)
                area(1) = 5
                nib(3, 0)
                draw(10, 20, 11, 20)
                ink(2, 20) = .......########
                nib(0, 6)
                draw(3, 25, 3, 20)
                area(3) = 18
                ink(3, 13) = 0
                ink(3, 14) = ...#
                ink(3, 31) = ...#
                """);
        rule("Part 1: INK of a STROKE, that of all its STEPS, first and last, too", """
                nib(0, 1)
                draw(1, 5, 3, 5, 5, 5, 7, 5, 9, 5, 11, 5, 13, 5, 15, 5)
                ink(0, 5) = .###############
                draw(1, 5, 3, 5, 1, 5)
                ink(1, 5) = .###
                area(1) = 9
                """);
        rule("Part 1: INK of several STROKES, in that of any of them; of none, no place", """
                area(-1) = 0
                nib(1, 0)
                draw(2, 5)
                draw(4, 5)
                draw(8, 5)
                draw(10, 5)
                draw(14, 5)
                draw(20, 5)
                ink(-1, 5) = .#####.#####.###...###
                area(-1) = 16
                """);
    }

    private static void inkAtTheEdges() {
        rule("Part 1: places of THE FIELD alone, in its corners", """
                draw(0, 0)
                draw(31, 0)
                draw(0, 31)
                draw(31, 31)
                area(0) = 1
                area(1) = 3
                area(2) = 3
                area(3) = 1
                ink(0, 0) = 1
                ink(1, 0) = 2147483648
                ink(1, 2) = 536870912
                ink(2, 29) = ..#
                ink(2, 31) = #
                ink(3, 31) = 2147483648
                """);
        rule("Part 1: ink that runs off one edge does not come back at the other one", """
                nib(6, 0)
                draw(31, 5)
                ink(0, 5) = 4261412864
                ink(0, 6) = 0
                ink(0, 4) = 0
                draw(0, 5)
                ink(1, 5) = #######
                nib(0, 6)
                draw(5, 31)
                ink(2, 0) = 0
                ink(2, 24) = 0
                ink(2, 25) = .....#
                draw(5, 0)
                ink(3, 31) = 0
                ink(3, 6) = .....#
                ink(3, 7) = 0
                """);
    }

    private static void area() {
        rule("Promise 11: UNKNOWN, there is no such STROKE; -1 is all", """
                area(0) ! UNKNOWN
                area(-1) ! 0
                draw(11, 5)
                area(0) ! 5
                area(-1) ! 5
                area(1) ! UNKNOWN
                area(6) ! UNKNOWN
                area(-2) ! UNKNOWN
                area(MIN) ! UNKNOWN
                area(MAX) ! UNKNOWN
                """);
        rule("Promise 11: one place at least, every place at most", """
                draw(0, 0)
                area(0) = 1
                nib(0, 6)
                draw(0, 6, 31, 6, 31, 19, 0, 19, 0, 27, 31, 27)
                area(1) = 1024
                area(-1) = 1024 // a place of both counts once
                """);
    }
}
