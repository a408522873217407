/** Promises 12 to 15: LIMIT, THICK, SORTS and WRONG steps. */
public final class ThickTest {
    private static final Checks checks = new Checks("ThickTest");

    public static void main(String[] args) {
        limit();
        thick();
        sort();
        wrong();
        checks.end();
    }

    private static void limit() {
        NibLetters x = new NibLetters();
        checks.due("limit(1)", x.limit(1), 4);
        checks.due("limit(20)", x.limit(20), 1);
        checks.due("limit(0)", x.limit(0), NibLetters.OUTSIDE);
        checks.due("limit(21)", x.limit(21), NibLetters.OUTSIDE);
        checks.due("limit(-5)", x.limit(-5), NibLetters.OUTSIDE);
        checks.due("limit after refusals", x.many(5), 20);
    }

    private static void thick() {
        NibLetters x = new NibLetters();
        x.nib(3, 1);
        Checks.stroke(x, 10, 10, 12, 14, 18, 16, 11, 16, 11, 17);
        // (2, 4): twist 2 - 12 = -10; 400 of 20
        checks.due("upper of (2, 4)", x.thick(0, 0, 0), 20);
        checks.due("lower of (2, 4)", x.thick(0, 0, 1), 1);
        // (6, 2): twist 0
        checks.due("upper of nothing", x.thick(0, 1, 0), 0);
        checks.due("lower of nothing", x.thick(0, 1, 1), 1);
        // (-7, 0): twist -7; 196 of 49
        checks.due("upper of (-7, 0)", x.thick(0, 2, 0), 4);
        checks.due("lower of (-7, 0)", x.thick(0, 2, 1), 1);
        checks.due("upper of (0, 1)", x.thick(0, 3, 0), 36);
        x.nib(2, -2);
        Checks.stroke(x, 8, 20, 14, 12);
        checks.due("upper of a share", x.thick(1, 0, 0), 16);
        checks.due("lower of a share", x.thick(1, 0, 1), 25);
        x.nib(6, -6);
        Checks.stroke(x, 0, 0, 31, 31);
        checks.due("the greatest twist", x.thick(2, 0, 0), 288);
        checks.due("the greatest twist, lower", x.thick(2, 0, 1), 1);
        checks.due("no such step", x.thick(0, 4, 0), NibLetters.UNKNOWN);
        checks.due("no such step, and outside", x.thick(0, -1, 2), NibLetters.UNKNOWN);
        checks.due("no such stroke", x.thick(3, 0, 0), NibLetters.UNKNOWN);
        checks.due("stroke -1", x.thick(-1, 0, 0), NibLetters.UNKNOWN);
        checks.due("which 2", x.thick(0, 0, 2), NibLetters.OUTSIDE);
        checks.due("which -1", x.thick(0, 0, -1), NibLetters.OUTSIDE);
        Checks.stroke(x, 5, 5);
        checks.due("one point has no step", x.thick(3, 0, 0), NibLetters.UNKNOWN);
    }

    private static void sort() {
        NibLetters x = new NibLetters();
        Checks.stroke(x, 8, 4, 8, 20, 14, 14, 8, 20, 14, 12);
        checks.due("just as thick as the limit", x.sort(0, 0), 2);
        checks.due("a hair, with the nib", x.sort(0, 1), 0);
        checks.due("a hair, against the nib", x.sort(0, 2), 0);
        checks.due("thin", x.sort(0, 3), 1);
        x.limit(5);
        checks.due("less than the limit", x.sort(0, 0), 1);
        x.limit(1);
        checks.due("a hair at limit 1", x.sort(0, 1), 0);
        checks.due("thin at limit 1: 16 of 25", x.sort(0, 3), 1);
        x.nib(1, 0);
        Checks.stroke(x, 8, 4, 11, 8);
        // twist -4, 64 of 25: between 1 and 2, times itself
        checks.due("64 of 25 at limit 1", x.sort(1, 0), 2);
        x.limit(2);
        checks.due("64 of 25 at limit 2", x.sort(1, 0), 1);
        checks.due("no such step", x.sort(0, 4), NibLetters.UNKNOWN);
        checks.due("step -1", x.sort(0, -1), NibLetters.UNKNOWN);
        checks.due("no such stroke", x.sort(2, 0), NibLetters.UNKNOWN);
        checks.due("stroke -1", x.sort(-1, 0), NibLetters.UNKNOWN);
    }

    private static void wrong() {
        NibLetters x = new NibLetters();
        checks.due("wrong of nothing", x.wrong(), 0);
        x.nib(3, 0);
        Checks.stroke(x, 10, 4, 10, 12, 16, 12, 16, 4);
        checks.due("down full, aside, up full", x.wrong(), 1);
        x.limit(7);
        checks.due("down thin, aside, up thin", x.wrong(), 1);
        x.limit(4);
        x.nib(0, 3);
        Checks.stroke(x, 10, 4, 10, 12, 16, 12, 10, 12, 10, 4);
        checks.due("down hair, aside full, up hair", x.ofStroke(1, 4), 1);
        checks.due("of both strokes", x.wrong(), 2);
        x.keep(7);
        checks.due("letters don't count", x.wrong(), 0);
    }
}
