import java.util.ArrayList;
import java.util.List;

/** Promises 18 to 27: LETTERS, KINDS, APART, FIT, LIKEST and LESSONS. */
public final class LettersTest {
    private static final Checks checks = new Checks("LettersTest");

    public static void main(String[] args) {
        keep();
        keepTen();
        take();
        forget();
        name();
        ofLetter();
        kind();
        kindOrder();
        everyKindUnlike();
        apart();
        fit();
        likest();
        lesson();
        lessonByKinds();
        checks.end();
    }

    private static void keep() {
        NibLetters x = new NibLetters();
        checks.due("keep of nothing", x.keep(0), NibLetters.STATE);
        checks.due("keep(26) of nothing", x.keep(26), NibLetters.OUTSIDE);
        checks.due("keep(-1)", x.keep(-1), NibLetters.OUTSIDE);
        x.point(9, 9);
        checks.due("a line is no stroke", x.keep(0), NibLetters.STATE);
        x.nib(1, 0);
        x.lift();
        x.point(4, 4);
        checks.due("keep(25)", x.keep(25), 1);
        checks.due("the sheet is empty", x.many(1), 0);
        checks.due("the line stays", x.many(0), 1);
        checks.due("the nib stays", x.ofNib(0), 1);
        checks.due("again", x.keep(25), NibLetters.STATE);
        checks.due("the letter is there", x.ofLetter(25, 1), 3);
        Checks.stroke(x, 5, 5, 9, 5);
        checks.due("in place of one", x.keep(25), 1);
        checks.due("the letter is the new one", x.ofLetter(25, 1), 7);
    }

    private static void keepTen() {
        NibLetters x = new NibLetters();
        for (int name = 0; name < 10; name++) {
            checks.due("keep", Checks.letter(x, 2 * name, 1, 0, name, name), name + 1);
        }
        checks.due("keep of nothing when full", x.keep(25), NibLetters.STATE);
        Checks.stroke(x, 3, 3);
        checks.due("the eleventh", x.keep(1), NibLetters.FULL);
        checks.due("the sheet stays", x.many(1), 1);
        checks.due("outside when full", x.keep(26), NibLetters.OUTSIDE);
        checks.due("in place of one when full", x.keep(4), 10);
        checks.due("it is replaced", x.ofLetter(4, 5), 2);
        checks.due("forget makes room", x.forget(6), 9);
        checks.due("keep then", Checks.letter(x, 1, 1, 0, 9, 9), 10);
    }

    private static void take() {
        NibLetters x = new NibLetters();
        x.nib(0, 4);
        Checks.stroke(x, 3, 3, 9, 3);
        Checks.stroke(x, 3, 9);
        x.keep(5);
        x.nib(6, 1);
        Checks.stroke(x, 20, 20);
        Checks.stroke(x, 21, 20);
        Checks.stroke(x, 22, 20);
        x.point(1, 1);
        checks.due("take", x.take(5), 2);
        checks.due("strokes", x.many(1), 2);
        checks.due("the first one's points", x.ofStroke(0, 0), 2);
        checks.due("the second one's place", x.place(1, 0, 1), 9);
        checks.due("the nib of the letter", x.ofStroke(0, 2), 4);
        checks.due("the pen's nib stays", x.ofNib(0), 6);
        checks.due("the line stays", x.many(0), 1);
        checks.due("the letter stays", x.ofLetter(5, 0), 2);
        x.undo();
        checks.due("undo leaves the letter alone", x.ofLetter(5, 0), 2);
        x.lift();
        checks.due("lift leaves the letter alone", x.ofLetter(5, 6), 9);
        checks.due("take once more", x.take(5), 2);
        checks.due("take(6)", x.take(6), NibLetters.UNKNOWN);
        checks.due("take(26)", x.take(26), NibLetters.UNKNOWN);
        checks.due("take(-1)", x.take(-1), NibLetters.UNKNOWN);
        checks.due("the sheet after refusals", x.many(1), 2);
        x.forget(5);
        checks.due("forget leaves the sheet alone", x.ofStroke(1, 0), 1);
    }

    private static void forget() {
        NibLetters x = new NibLetters();
        checks.due("forget of nothing", x.forget(0), NibLetters.UNKNOWN);
        Checks.letter(x, 0, 1, 0, 5, 5);
        Checks.letter(x, 25, 1, 0, 5, 5);
        checks.due("forget(26)", x.forget(26), NibLetters.UNKNOWN);
        checks.due("forget(-1)", x.forget(-1), NibLetters.UNKNOWN);
        checks.due("forget(0)", x.forget(0), 1);
        checks.due("forget(0) again", x.forget(0), NibLetters.UNKNOWN);
        checks.due("forget(25)", x.forget(25), 0);
        checks.due("letters", x.many(3), 0);
        checks.due("take of it", x.take(25), NibLetters.UNKNOWN);
    }

    private static void name() {
        NibLetters x = new NibLetters();
        int[] names = {17, 3, 25, 0};
        for (int name : names) {
            Checks.letter(x, name, 1, 0, 5, 5);
        }
        checks.due("name(0)", x.name(0), 0);
        checks.due("name(1)", x.name(1), 3);
        checks.due("name(2)", x.name(2), 17);
        checks.due("name(3)", x.name(3), 25);
        checks.due("name(4)", x.name(4), NibLetters.NONE);
        checks.due("name(9)", x.name(9), NibLetters.NONE);
        checks.due("name(10)", x.name(10), NibLetters.OUTSIDE);
        checks.due("name(-1)", x.name(-1), NibLetters.OUTSIDE);
        x.forget(3);
        checks.due("name(1) after forget", x.name(1), 17);
    }

    private static void ofLetter() {
        NibLetters x = new NibLetters();
        x.nib(1, 0);
        Checks.stroke(x, 10, 10, 20, 10, 20, 20, 10, 20, 10, 10);
        Checks.stroke(x, 2, 2, 2, 5);
        Checks.stroke(x, 2, 4, 2, 6);
        x.nib(0, 1);
        Checks.stroke(x, 29, 29, 29, 30);
        x.limit(3);
        x.keep(8);
        // ring: rows 10, 20 of 13, and 9 rows of 6; post: 5 rows of 3; dot: 4
        int[] want = {4, 26 + 54 + 15 + 4, 3, 1, 3, 1, 29};
        for (int what = 0; what < want.length; what++) {
            checks.due("ofLetter(8, " + what + ")", x.ofLetter(8, what), want[what]);
        }
        x.limit(1);
        checks.due("kinds by another limit", x.ofLetter(8, 4), 3);
        x.limit(20);
        checks.due("kinds by limit 20", x.ofLetter(8, 4), 3);
        Checks.letter(x, 9, 2, -2, 31, 0, 0, 31);
        checks.due("least x at the edge", x.ofLetter(9, 5), 0);
        checks.due("greatest x at the edge", x.ofLetter(9, 6), 31);
        checks.due("what 7", x.ofLetter(8, 7), NibLetters.OUTSIDE);
        checks.due("what -1", x.ofLetter(8, -1), NibLetters.OUTSIDE);
        checks.due("no such letter", x.ofLetter(7, 0), NibLetters.UNKNOWN);
        checks.due("no such letter, and outside", x.ofLetter(26, 7), NibLetters.UNKNOWN);
        checks.due("letter -1", x.ofLetter(-1, 0), NibLetters.UNKNOWN);
    }

    private static void kind() {
        NibLetters x = new NibLetters();
        x.nib(3, 0);
        Checks.stroke(x, 5, 5, 5, 9);
        Checks.stroke(x, 5, 5, 9, 5);
        x.keep(0);
        Checks.stroke(x, 5, 5, 5, 9);
        Checks.stroke(x, 5, 5);
        Checks.stroke(x, 5, 5, 9, 5, 5, 9);
        Checks.stroke(x, 9, 9, 9, 5);
        // none; hair; full; hair, full
        checks.due("a kind of a letter, too", x.kind(0), 2);
        checks.due("no sorts", x.kind(1), 0);
        checks.due("two sorts", x.kind(2), 3);
        checks.due("the same kind", x.kind(3), 2);
        checks.due("unlike kinds", x.many(4), 4);
        x.forget(0);
        checks.due("without the letter", x.kind(0), 1);
        checks.due("no such stroke", x.kind(4), NibLetters.UNKNOWN);
        checks.due("stroke -1", x.kind(-1), NibLetters.UNKNOWN);
    }

    private static void kindOrder() {
        NibLetters x = new NibLetters();
        x.nib(3, 0);
        // with limit 4, of this nib: (4, 0) hair, (3, 1) thin, (0, 4) full
        Checks.stroke(x, 5, 5, 5, 9);
        Checks.stroke(x, 5, 5, 9, 5, 12, 6);
        Checks.stroke(x, 5, 5, 9, 5, 9, 9);
        Checks.stroke(x, 5, 5, 8, 6, 12, 6);
        Checks.stroke(x, 5, 5, 5, 9, 8, 10);
        Checks.stroke(x, 5, 5, 9, 5, 9, 9, 13, 9);
        for (int k = 0; k < 6; k++) {
            checks.due("kinds in their order, kind(" + k + ")", x.kind(k), k);
        }
        x.limit(1);
        checks.due("thin has become full by limit 1", x.kind(1), 1);
        checks.due("so two are alike", x.kind(2), 1);
        checks.due("and one has become full alone", x.kind(4), 0);
        checks.due("which the first one is, too", x.kind(0), 0);
    }

    /** Leads the pen by one step for each sort of a kind, with the nib (3, 0) and the limit 4. */
    private static void draw(NibLetters x, String kind) {
        int[] places = new int[2 * kind.length() + 2];
        for (int i = 0; i < kind.length(); i++) {
            int sort = kind.charAt(i) - '0';
            places[2 * i + 2] = places[2 * i] + (sort == 0 ? 1 : sort == 1 ? 3 : 0);
            places[2 * i + 3] = places[2 * i + 1] + (sort == 0 ? 0 : 1);
        }
        Checks.stroke(x, places);
    }

    /** All 66 strokes that there can be, in the order of their kinds, no two of which are alike. */
    private static void everyKindUnlike() {
        List<String> kinds = new ArrayList<>(List.of(""));
        for (int i = 0; kinds.size() < 66; i++) {
            for (char sort = '0'; sort <= '2'; sort++) {
                if (!kinds.get(i).endsWith(String.valueOf(sort))) {
                    kinds.add(kinds.get(i) + sort);
                }
            }
        }
        NibLetters x = new NibLetters();
        x.nib(3, 0);
        for (int i = 0; i < 66; i++) {
            draw(x, kinds.get(i));
            if (i % 6 == 5 && i < 60) {
                x.keep(i / 6);
            }
        }
        checks.due("66 kinds", x.many(4), 66);
        for (int k = 0; k < 6; k++) {
            checks.due("the last ones of them", x.kind(k), 60 + k);
            checks.due("how long they are", x.ofStroke(k, 3), kinds.get(60 + k).length());
        }
        for (int name = 0; name < 10; name++) {
            checks.due("lessons as they are named", x.lesson(name, 0), name);
            checks.due("all of whose kinds are new", x.lesson(name, 1), 6);
        }
        x.keep(9);
        checks.due("60 kinds", x.many(4), 60);
    }

    private static void apart() {
        NibLetters x = new NibLetters();
        Checks.letter(x, 2, 1, 0, 10, 10, 12, 10);
        checks.due("an empty sheet", x.apart(2, 3, 3), 5);
        x.take(2);
        checks.due("the same", x.apart(2, 0, 0), 0);
        checks.due("one to the right", x.apart(2, 1, 0), 2);
        checks.due("one to the left", x.apart(2, -1, 0), 2);
        checks.due("one down", x.apart(2, 0, 1), 10);
        checks.due("down to the edge", x.apart(2, 0, 21), 10);
        checks.due("lost below", x.apart(2, 0, 22), 5);
        checks.due("lost above", x.apart(2, 0, -11), 5);
        checks.due("partly lost to the right", x.apart(2, 20, 0), 5 + 3);
        checks.due("partly lost to the left", x.apart(2, -12, 0), 5 + 2);
        checks.due("lost to the right", x.apart(2, 31, 31), 5);
        checks.due("lost to the left", x.apart(2, -31, -31), 5);
        checks.due("a 32", x.apart(2, 32, 0), NibLetters.OUTSIDE);
        checks.due("a -32", x.apart(2, -32, 0), NibLetters.OUTSIDE);
        checks.due("b 32", x.apart(2, 0, 32), NibLetters.OUTSIDE);
        checks.due("b -32", x.apart(2, 0, -32), NibLetters.OUTSIDE);
        checks.due("no such letter, and outside", x.apart(3, 32, 0), NibLetters.UNKNOWN);
        checks.due("letter 26", x.apart(26, 0, 0), NibLetters.UNKNOWN);
        apartAtTheEdges();
        NibLetters y = new NibLetters();
        Checks.letter(y, 0, 1, 0, 10, 10);
        y.nib(1, 0);
        Checks.stroke(y, 12, 7);
        checks.due("moved onto it", y.apart(0, -2, 3), 0);
        checks.due("moved the other way", y.apart(0, 2, -3), 6);
    }

    private static void apartAtTheEdges() {
        NibLetters x = new NibLetters();
        Checks.letter(x, 0, 1, 0, 16, 0, 20, 0);
        x.nib(1, 0);
        Checks.stroke(x, 16, 31, 20, 31);
        checks.due("from the last row to the first", x.apart(0, 0, -31), 0);
        x.keep(1);
        x.take(0);
        checks.due("from the first row to the last", x.apart(1, 0, 31), 0);
        x.undo();
        Checks.letter(x, 2, 1, 0, 0, 5);
        checks.due("a letter at x 0", x.ofLetter(2, 5), 0);
        checks.due("ends at x 1", x.ofLetter(2, 6), 1);
        Checks.stroke(x, 31, 5);
        // x 30, 31 become 0, 1
        checks.due("from the right edge to the left one", x.apart(2, -30, 0), 0);
        x.undo();
        Checks.letter(x, 3, 0, 1, 0, 5);
        checks.due("a letter of x 0 alone", x.ofLetter(3, 6), 0);
    }

    private static void fit() {
        NibLetters x = new NibLetters();
        Checks.letter(x, 2, 1, 0, 10, 10, 12, 10);
        checks.due("an empty sheet", x.fit(2, 0), 5);
        checks.due("an empty sheet, the least a", x.fit(2, 1), -3);
        checks.due("an empty sheet, the least b", x.fit(2, 2), -3);
        Checks.stroke(x, 7, 13, 9, 13);
        checks.due("moved by (3, -3)", x.fit(2, 0), 0);
        checks.due("its a", x.fit(2, 1), 3);
        checks.due("its b", x.fit(2, 2), -3);
        x.undo();
        Checks.stroke(x, 14, 10, 16, 10);
        checks.due("4 away is too far", x.fit(2, 0), 2);
        checks.due("4 away, a", x.fit(2, 1), -3);
        x.undo();
        Checks.stroke(x, 9, 9, 13, 9);
        // 7 long against 5: a of -1 .. 1 leaves 2 over
        checks.due("several a", x.fit(2, 0), 2);
        checks.due("several a, the least", x.fit(2, 1), -1);
        checks.due("several a, b", x.fit(2, 2), 1);
        x.undo();
        x.nib(0, 1);
        Checks.stroke(x, 9, 10, 13, 10);
        checks.due("several a and b, the least a", x.fit(2, 1), 0);
        checks.due("several a and b, the least b", x.fit(2, 2), -1);
        checks.due("several a and b", x.fit(2, 0), 10);
        checks.due("what 3", x.fit(2, 3), NibLetters.OUTSIDE);
        checks.due("what -1", x.fit(2, -1), NibLetters.OUTSIDE);
        checks.due("no such letter", x.fit(3, 0), NibLetters.UNKNOWN);
        checks.due("no such letter, and outside", x.fit(-1, 3), NibLetters.UNKNOWN);
    }

    private static void likest() {
        NibLetters x = new NibLetters();
        checks.due("no letters", x.likest(0), NibLetters.NONE);
        checks.due("no letters, apart", x.likest(1), NibLetters.NONE);
        checks.due("no letters, and outside", x.likest(2), NibLetters.OUTSIDE);
        Checks.letter(x, 20, 1, 0, 10, 10);
        Checks.letter(x, 9, 1, 0, 10, 11, 14, 11);
        Checks.letter(x, 4, 1, 0, 20, 20, 24, 20);
        checks.due("an empty sheet is likest to the least ink", x.likest(0), 20);
        checks.due("an empty sheet, apart", x.likest(1), 3);
        Checks.stroke(x, 11, 11, 14, 11);
        checks.due("a letter nearby", x.likest(0), 9);
        checks.due("a letter nearby, apart", x.likest(1), 1);
        x.undo();
        Checks.stroke(x, 10, 8, 14, 8);
        x.keep(12);
        x.take(12);
        checks.due("of several the least name", x.likest(0), 9);
        checks.due("of several, apart", x.likest(1), 0);
        checks.due("likest(-1)", x.likest(-1), NibLetters.OUTSIDE);
    }

    private static void lesson() {
        NibLetters x = new NibLetters();
        checks.due("no letters", x.lesson(0, 0), NibLetters.NONE);
        checks.due("no letters, 1", x.lesson(9, 1), NibLetters.NONE);
        checks.due("k 10", x.lesson(10, 0), NibLetters.OUTSIDE);
        checks.due("k -1", x.lesson(-1, 0), NibLetters.OUTSIDE);
        checks.due("what 2", x.lesson(0, 2), NibLetters.OUTSIDE);
        checks.due("what -1", x.lesson(0, -1), NibLetters.OUTSIDE);
        for (int name = 9; name >= 0; name--) {
            Checks.letter(x, name + 10, 3, 0, name, 5, name, 9);
        }
        for (int k = 0; k < 10; k++) {
            checks.due("all alike, lesson(" + k + ", 0)", x.lesson(k, 0), k + 10);
            checks.due("all alike, lesson(" + k + ", 1)", x.lesson(k, 1), k == 0 ? 1 : 0);
        }
    }

    private static void lessonByKinds() {
        NibLetters x = new NibLetters();
        x.nib(3, 0);
        Checks.stroke(x, 5, 5, 9, 5);
        Checks.stroke(x, 5, 5, 5, 9);
        Checks.stroke(x, 5, 5, 9, 5, 9, 9);
        x.keep(1); // hair; full; hair, full
        Checks.stroke(x, 5, 5, 9, 5, 9, 9, 13, 9);
        Checks.stroke(x, 5, 5, 9, 5);
        x.keep(2); // hair, full, hair; hair
        Checks.stroke(x, 6, 5, 9, 5);
        Checks.stroke(x, 7, 5, 9, 5);
        Checks.stroke(x, 8, 5, 9, 5);
        x.keep(3); // hair, three times
        Checks.stroke(x, 5, 5, 5, 9);
        Checks.stroke(x, 5, 5, 5, 8);
        x.keep(4); // full, twice
        int[] names = {3, 2, 4, 1};
        int[] news = {1, 1, 1, 1};
        for (int k = 0; k < 4; k++) {
            checks.due("lesson(" + k + ", 0)", x.lesson(k, 0), names[k]);
            checks.due("lesson(" + k + ", 1)", x.lesson(k, 1), news[k]);
        }
        checks.due("lesson(4, 0)", x.lesson(4, 0), NibLetters.NONE);
        checks.due("lesson(4, 1)", x.lesson(4, 1), NibLetters.NONE);
        x.forget(3);
        checks.due("without 3, first", x.lesson(0, 0), 4);
        checks.due("without 3, second", x.lesson(1, 0), 1);
        checks.due("without 3, second has two that are new", x.lesson(1, 1), 2);
        checks.due("without 3, third", x.lesson(2, 0), 2);
        x.limit(7);
        checks.due("the sheet's limit counts: thin for full", x.lesson(0, 0), 4);
    }
}
