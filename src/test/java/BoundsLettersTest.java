import java.util.ArrayList;
import java.util.List;

/** What the document says of bounds in part 4 and in promises 18 to 23: a rule for each such sentence. */
public final class BoundsLettersTest {
    private static final Checks checks = new Checks("BoundsLettersTest");
    /** Keeps ten letters, of the names 0, 2, 4 .. 16 and 25, all of them alike but for their place. */
    static final String TEN_LETTERS = tenLetters();

    public static void main(String[] args) {
        keep();
        keepTen();
        take();
        takeAndChange();
        forget();
        name();
        ofLetterRefused();
        ofLetterAtItsBounds();
        kindRefused();
        kindRow();
        kindOrder();
        kindOfAll();
        everyKindUnlike();
        checks.end();
    }

    private static void rule(String rule, String text) {
        Script.rule(checks, rule, text);
    }

    private static String tenLetters() {
        StringBuilder text = new StringBuilder();
        for (int i = 0; i < 10; i++) {
            int name = i == 9 ? 25 : 2 * i;
            text.append(String.format("draw(%d, 9)%nkeep(%d) = %d%n", i + 3, name, i + 1));
        }
        return text.toString();
    }

    private static void keep() {
        rule("Promise 18: OUTSIDE, NAMES 0 .. 25", """
                draw(5, 5)
                keep(-1) ! OUTSIDE
                keep(26) ! OUTSIDE
                keep(MIN) ! OUTSIDE
                keep(MAX) ! OUTSIDE
                keep(0) = 1
                draw(5, 5)
                keep(25) = 2
                name(0) = 0
                name(1) = 25
                """);
        rule("Promise 18: STATE, THE SHEET is empty", """
                keep(3) ! STATE
                point(5, 5)
                keep(3) ! STATE // a line is no stroke
                lift()
                keep(3) = 1
                keep(3) ! STATE
                keep(4) ! STATE
                many(3) = 1
                """);
        rule("Promise 18: OUTSIDE is ahead of STATE", """
                keep(-1) ! OUTSIDE
                keep(26) ! OUTSIDE
                """);
        rule("Promise 18: THE SHEET is empty then; all else stays", """
                limit(9)
                nib(3, 1)
                draw(5, 5)
                draw(6, 5)
                point(7, 7)
                frame(2)
                keep(3) = 1
                many(1) = 0
                many(0) = 1
                many(5) = 9
                ofNib(0) = 3
                area(-1) = 0
                area(0) = UNKNOWN
                ofLetter(3, 0) = 2
                spoil() = 2
                """);
        rule("Promise 18: in place of one that has it", """
                draw(5, 5)
                draw(6, 5)
                keep(3) = 1
                draw(20, 5)
                keep(3) = 1
                ofLetter(3, 0) = 1
                ofLetter(3, 5) = 18
                take(3) = 1
                """);
        rule("Part 4: each has STROKES, six at most", """
                draw(1, 5)
                draw(2, 5)
                draw(3, 5)
                draw(4, 5)
                draw(5, 5)
                draw(6, 5)
                keep(3) = 1
                ofLetter(3, 0) = 6
                draw(7, 5) = 0
                take(3) = 6
                place(0, 0, 0) = 1
                place(5, 0, 0) = 6
                """);
    }

    private static void keepTen() {
        rule("Promise 18: FULL, there are ten others", TEN_LETTERS + """
                draw(20, 20)
                keep(1) ! FULL
                keep(24) ! FULL
                many(3) = 10
                forget(4) = 9
                keep(24) = 10
                draw(20, 20)
                keep(4) ! FULL
                """);
        rule("Promise 18: of ten one can be put in place of one", TEN_LETTERS + """
                draw(20, 20)
                keep(25) = 10
                ofLetter(25, 5) = 18
                draw(21, 20)
                keep(0) = 10
                ofLetter(0, 5) = 19
                """);
        rule("Promise 18: OUTSIDE, then STATE, then FULL", TEN_LETTERS + """
                keep(26) ! OUTSIDE
                keep(1) ! STATE
                draw(20, 20)
                keep(-1) ! OUTSIDE
                keep(26) ! OUTSIDE
                keep(1) ! FULL
                """);
    }

    private static void take() {
        rule("Promise 19: UNKNOWN, there is no such LETTER", """
                take(0) ! UNKNOWN
                draw(5, 5)
                keep(0)
                draw(6, 5)
                draw(7, 5)
                take(1) ! UNKNOWN
                take(25) ! UNKNOWN
                take(26) ! UNKNOWN
                take(-1) ! UNKNOWN
                take(MIN) ! UNKNOWN
                take(MAX) ! UNKNOWN
                take(0) = 1
                forget(0)
                take(0) ! UNKNOWN
                """);
        rule("Promise 19: in place of all its own, six or none", """
                draw(1, 5)
                keep(25)
                take(25) = 1
                many(1) = 1
                draw(2, 5)
                draw(3, 5)
                draw(4, 5)
                draw(5, 5)
                draw(6, 5)
                many(1) = 6
                take(25) = 1
                many(1) = 1
                ofStroke(1, 0) = UNKNOWN
                place(0, 0, 0) = 1
                draw(9, 5) = 1
                """);
        rule("Promise 19: what is not of THE SHEET stays", """
                nib(6, 1)
                draw(20, 5)
                keep(7)
                nib(1, 0)
                limit(8)
                point(2, 2)
                point(3, 3)
                take(7) = 1
                ofStroke(0, 1) = 6
                ofNib(0) = 1
                ofNib(1) = 0
                many(0) = 2
                many(5) = 8
                many(3) = 1
                """);
    }

    private static void takeAndChange() {
        rule("Promise 19: the LETTER stays, whatever becomes of THE SHEET", """
                draw(1, 5, 2, 5)
                draw(9, 5)
                keep(7)
                take(7) = 2
                undo() = 1
                undo() = 0
                ofLetter(7, 0) = 2
                take(7) = 2
                draw(20, 20) = 2
                ofLetter(7, 0) = 2
                ofLetter(7, 6) = 11
                keep(8) = 2
                ofLetter(7, 0) = 2
                ofLetter(8, 0) = 3
                take(7) = 2
                forget(7) = 1
                many(1) = 2
                place(0, 1, 0) = 2
                keep(8) = 1
                take(8) = 2
                """);
    }

    private static void forget() {
        rule("Promise 20: UNKNOWN, there is no such LETTER", """
                forget(0) ! UNKNOWN
                draw(5, 5)
                keep(0)
                draw(5, 5)
                keep(25)
                forget(1) ! UNKNOWN
                forget(26) ! UNKNOWN
                forget(-1) ! UNKNOWN
                forget(MIN) ! UNKNOWN
                forget(MAX) ! UNKNOWN
                forget(0) = 1
                forget(0) ! UNKNOWN
                forget(25) = 0
                forget(25) ! UNKNOWN
                """);
        rule("Promise 20: from ten on to none", TEN_LETTERS + """
                forget(25) = 9
                forget(0) = 8
                forget(2) = 7
                forget(4) = 6
                forget(6) = 5
                forget(8) = 4
                forget(10) = 3
                forget(12) = 2
                forget(14) = 1
                name(0) = 16
                forget(16) = 0
                name(0) = NONE
                """);
    }

    private static void name() {
        rule("Promise 21: OUTSIDE, k 0 .. 9; it is ahead of NONE", """
                name(0) ! NONE
                name(9) ! NONE
                name(10) ! OUTSIDE
                name(-1) ! OUTSIDE
                name(MIN) ! OUTSIDE
                name(MAX) ! OUTSIDE
                """);
        rule("Promise 21: NONE, there are fewer", """
                draw(5, 5)
                keep(25)
                name(0) ! 25
                name(1) ! NONE
                draw(5, 5)
                keep(0)
                name(0) ! 0
                name(1) ! 25
                name(2) ! NONE
                forget(0)
                name(0) ! 25
                name(1) ! NONE
                """);
        rule("Promise 21: from the least on, all ten of them", TEN_LETTERS + """
                name(0) = 0
                name(1) = 2
                name(2) = 4
                name(3) = 6
                name(4) = 8
                name(5) = 10
                name(6) = 12
                name(7) = 14
                name(8) = 16
                name(9) = 25
                name(10) ! OUTSIDE
                """);
    }

    private static void ofLetterRefused() {
        rule("Promise 22: UNKNOWN, there is no such LETTER", """
                ofLetter(0, 0) ! UNKNOWN
                draw(5, 5)
                keep(0)
                ofLetter(0, 0) ! 1
                ofLetter(1, 0) ! UNKNOWN
                ofLetter(25, 0) ! UNKNOWN
                ofLetter(26, 0) ! UNKNOWN
                ofLetter(-1, 0) ! UNKNOWN
                ofLetter(MIN, 0) ! UNKNOWN
                ofLetter(MAX, 0) ! UNKNOWN
                """);
        rule("Promise 22: OUTSIDE, what is 0 .. 6", """
                draw(5, 5)
                keep(25)
                ofLetter(25, 0) ! 1
                ofLetter(25, 1) ! 5
                ofLetter(25, 2) ! 1
                ofLetter(25, 3) ! 0
                ofLetter(25, 4) ! 1
                ofLetter(25, 5) ! 3
                ofLetter(25, 6) ! 7
                ofLetter(25, 7) ! OUTSIDE
                ofLetter(25, -1) ! OUTSIDE
                ofLetter(25, MIN) ! OUTSIDE
                ofLetter(25, MAX) ! OUTSIDE
                """);
        rule("Promise 22: UNKNOWN is ahead of OUTSIDE", """
                ofLetter(0, 7) ! UNKNOWN
                ofLetter(26, 7) ! UNKNOWN
                ofLetter(-1, -1) ! UNKNOWN
                """);
    }

    private static void ofLetterAtItsBounds() {
        rule("Promise 22: the least and the greatest x, at the edges", """
                nib(0, 1)
                draw(0, 5)
                keep(0)
                ofLetter(0, 5) = 0
                ofLetter(0, 6) = 0
                draw(31, 5)
                keep(1)
                ofLetter(1, 5) = 31
                ofLetter(1, 6) = 31
                nib(6, 0)
                draw(5, 31, 26, 0)
                keep(2)
                ofLetter(2, 5) = 0
                ofLetter(2, 6) = 31
                draw(7, 31, 24, 0)
                keep(3)
                ofLetter(3, 5) = 1
                ofLetter(3, 6) = 30
                """);
        rule("Promise 22: every place, and one place", """
                nib(0, 6)
                draw(0, 6, 31, 6, 31, 19, 0, 19, 0, 27, 31, 27)
                keep(0)
                ofLetter(0, 1) = 1024
                ofLetter(0, 2) = 1
                ofLetter(0, 3) = 0
                nib(2, -2)
                draw(0, 0)
                keep(1)
                ofLetter(1, 1) = 1
                ofLetter(1, 2) = 1
                """);
        rule("Promise 22: unlike KINDS, one to six", """
                nib(3, 0)
                draw(5, 5)
                draw(9, 5)
                draw(9, 9)
                keep(0)
                ofLetter(0, 4) = 1
                draw(5, 5) // none
                draw(5, 5, 9, 5) // hair
                draw(5, 5, 8, 6) // thin
                draw(5, 5, 5, 9) // full
                draw(5, 5, 9, 5, 9, 9) // hair, full
                draw(5, 5, 5, 9, 9, 9) // full, hair
                keep(1)
                ofLetter(1, 4) = 6
                limit(1) // thin is full
                ofLetter(1, 4) = 5
                """);
    }

    private static void kindRefused() {
        rule("Promise 23: UNKNOWN, there is no such STROKE", """
                kind(0) ! UNKNOWN
                draw(5, 5)
                keep(0)
                kind(0) ! UNKNOWN // one of a letter is not one of the sheet
                draw(5, 5)
                kind(0) ! 0
                kind(1) ! UNKNOWN
                kind(5) ! UNKNOWN
                kind(6) ! UNKNOWN
                kind(-1) ! UNKNOWN
                kind(MIN) ! UNKNOWN
                kind(MAX) ! UNKNOWN
                """);
    }

    private static void kindRow() {
        rule("Part 4: no SORTS, if it has no STEPS; ahead of every other one", """
                nib(3, 0)
                draw(5, 5, 9, 5) // hair
                kind(0) = 0
                draw(5, 5)
                kind(1) = 0
                kind(0) = 1
                ofStroke(1, 3) = 0
                """);
        rule("Part 4: of SORTS that are alike and follow one another just one is left", """
                nib(3, 0)
                draw(5, 5, 9, 5, 12, 5, 5, 5) // hair, three times
                ofStroke(0, 3) = 1
                draw(5, 5, 9, 5)
                many(4) = 1
                draw(5, 5, 9, 5, 9, 9, 5, 9) // hair, full, hair: these do not follow one another
                ofStroke(2, 3) = 3
                draw(5, 5, 9, 5, 9, 9, 9, 13, 5, 13) // hair, full, full, hair
                ofStroke(3, 3) = 3
                many(4) = 2
                kind(2) = 1
                kind(3) = 1
                """);
    }

    private static void kindOrder() {
        rule("Part 4: a KIND is ahead of another one, if it is shorter", """
                nib(3, 0)
                draw(5, 5, 9, 5, 9, 9) // hair, full
                draw(5, 5, 5, 9) // full
                draw(5, 5, 5, 9, 9, 9) // full, hair
                draw(5, 5, 9, 5, 9, 9, 13, 9) // hair, full, hair
                draw(5, 5)
                kind(4) = 0
                kind(1) = 1
                kind(0) = 2
                kind(2) = 3
                kind(3) = 4
                """);
        rule("Part 4: of the same length, if at the first place where they differ it has the lesser SORT", """
                nib(3, 0)
                draw(5, 5, 5, 9, 9, 9, 12, 10) // full, hair, thin
                draw(5, 5, 9, 5, 9, 9, 12, 10) // hair, full, thin
                draw(5, 5, 9, 5, 12, 6, 12, 10) // hair, thin, full
                draw(5, 5, 9, 5, 9, 9, 13, 9) // hair, full, hair
                draw(5, 5, 8, 6, 12, 6, 15, 7) // thin, hair, thin
                draw(5, 5, 8, 6, 8, 10, 12, 10) // thin, full, hair
                kind(2) = 0
                kind(3) = 1
                kind(1) = 2
                kind(4) = 3
                kind(5) = 4
                kind(0) = 5
                """);
        rule("Part 4: the last of seven places", """
                nib(3, 0)
                draw(5, 1, 5, 3, 9, 3, 9, 5, 5, 5, 5, 7, 9, 7, 9, 9) // full, hair .. full
                draw(5, 1, 5, 3, 9, 3, 9, 5, 5, 5, 5, 7, 9, 7, 12, 8) // full, hair .. thin
                kind(0) = 1
                kind(1) = 0
                many(4) = 2
                """);
    }

    private static void kindOfAll() {
        rule("Promise 23: of all STROKES of all LETTERS and of THE SHEET, each KIND once", """
                nib(3, 0)
                draw(5, 5, 9, 5) // hair
                draw(5, 5, 5, 9) // full
                keep(0)
                draw(5, 5, 8, 6) // thin
                draw(5, 5, 9, 5) // hair
                keep(25)
                draw(5, 5)
                draw(5, 5, 5, 9) // full
                draw(5, 5, 9, 5, 9, 9) // hair, full
                kind(0) = 0
                kind(1) = 3
                kind(2) = 4
                many(4) = 5
                forget(25)
                kind(1) = 2
                many(4) = 4
                forget(0)
                kind(1) = 1
                kind(2) = 2
                """);
    }

    /** The stroke that draws a kind, with the nib (3, 0) and the limit 4: a step for each of its sorts. */
    private static String drawn(String kind) {
        int x = 0;
        int y = 0;
        StringBuilder text = new StringBuilder("draw(0, 0");
        for (char sort : kind.toCharArray()) {
            x += sort == '0' ? 1 : sort == '1' ? 3 : 0;
            y += sort == '0' ? 0 : 1;
            text.append(", ").append(x).append(", ").append(y);
        }
        return text.append(")\n").toString();
    }

    private static void everyKindUnlike() {
        List<String> kinds = new ArrayList<>(List.of(""));
        for (int i = 0; kinds.size() < 66; i++) {
            for (char sort = '0'; sort <= '2'; sort++) {
                if (!kinds.get(i).endsWith(String.valueOf(sort))) {
                    kinds.add(kinds.get(i) + sort);
                }
            }
        }
        StringBuilder text = new StringBuilder("nib(3, 0)\n");
        for (int i = 0; i < 66; i++) {
            text.append(drawn(kinds.get(65 - i)));
            if (i % 6 == 5 && i < 60) {
                text.append("keep(").append(i / 6).append(")\n");
            }
        }
        rule("Promises 23, 35: ten LETTERS and THE SHEET, six STROKES each, no two KINDS alike", text + """
                many(4) = 66
                kind(5) = 0
                kind(4) = 1
                kind(0) = 5
                lesson(9, 0) = 9
                lesson(9, 1) = 6
                take(0)
                many(4) = 60
                kind(0) = 59
                kind(5) = 54
                """);
    }
}
