/** Promises 28 and 29: the nib and the limit by which the fewest steps are WRONG. */
public final class BestTest {
    private static final Checks checks = new Checks("BestTest");

    public static void main(String[] args) {
        bestNib();
        bestNibAtItsBounds();
        bestLimit();
        checks.end();
    }

    private static void nibDue(NibLetters x, String told, int u, int v, int wrong) {
        checks.due(told + ", u", x.bestNib(0), u);
        checks.due(told + ", v", x.bestNib(1), v);
        checks.due(told + ", wrong", x.bestNib(2), wrong);
    }

    private static void bestNib() {
        NibLetters x = new NibLetters();
        nibDue(x, "an empty sheet", 0, -6, 0);
        checks.due("what 3", x.bestNib(3), NibLetters.OUTSIDE);
        checks.due("what -1", x.bestNib(-1), NibLetters.OUTSIDE);
        Checks.stroke(x, 10, 4, 10, 12);
        // straight down, twist is -8 u: 4 u u is no less than 16 from u 2 on
        nibDue(x, "straight down", 2, -6, 0);
        x.limit(5);
        nibDue(x, "straight down, limit 5", 3, -6, 0);
        x.limit(20);
        nibDue(x, "no nib is thick enough", 0, -6, 1);
        x.limit(4);
        Checks.stroke(x, 10, 12, 10, 4);
        nibDue(x, "down and up the same way", 0, -6, 1);
        x.undo();
        Checks.stroke(x, 4, 12, 12, 4);
        // up to the right, (8, -8): twist 8 (v + u), full from |u + v| 3 on (4 * 9 / 2 = 18)
        nibDue(x, "down, and up to the right", 2, -4, 0);
        checks.due("nothing was changed", x.ofNib(1), -2);
        checks.due("nothing of the strokes, either", x.ofStroke(0, 2), -2);
    }

    private static void bestNibAtItsBounds() {
        NibLetters x = new NibLetters();
        x.limit(16);
        Checks.stroke(x, 20, 4, 10, 14);
        // (-10, 10): 288 thick with (6, 6), less than 256 with any other
        nibDue(x, "the last one of all", 6, 6, 0);
        NibLetters y = new NibLetters();
        y.limit(1);
        Checks.stroke(y, 10, 4, 10, 12, 18, 11, 10, 10);
        // up (8, -1) and (-8, -1): 8 v + u, 8 v - u stay within 4
        nibDue(y, "v 0", 1, 0, 0);
        NibLetters z = new NibLetters();
        z.limit(1);
        Checks.stroke(z, 10, 10, 18, 11, 19, 3);
        // down (8, 1), up (1, -8): v + 8 u stays within 4
        nibDue(z, "u 0", 0, -4, 0);
    }

    private static void limitDue(NibLetters x, String told, int limit, int wrong) {
        checks.due(told, x.bestLimit(0), limit);
        checks.due(told + ", wrong", x.bestLimit(1), wrong);
    }

    private static void bestLimit() {
        NibLetters x = new NibLetters();
        limitDue(x, "an empty sheet", 1, 0);
        checks.due("what 2", x.bestLimit(2), NibLetters.OUTSIDE);
        checks.due("what -1", x.bestLimit(-1), NibLetters.OUTSIDE);
        x.nib(3, 0);
        Checks.stroke(x, 10, 12, 10, 4);
        // up, 36 thick: full up to limit 6
        limitDue(x, "up", 7, 0);
        x.nib(5, 0);
        Checks.stroke(x, 10, 4, 10, 12);
        // down, 100 thick: full up to limit 10
        limitDue(x, "up thinner than down", 7, 0);
        x.nib(2, 0);
        Checks.stroke(x, 20, 4, 20, 12);
        limitDue(x, "down thinner than up: either is wrong", 1, 1);
        Checks.stroke(x, 20, 12, 20, 4);
        limitDue(x, "one up more", 7, 1);
        x.limit(13);
        limitDue(x, "whatever the limit is", 7, 1);
        checks.due("which stays", x.many(5), 13);
        NibLetters y = new NibLetters();
        y.nib(6, 6);
        Checks.stroke(y, 4, 12, 12, 4);
        limitDue(y, "up, 288 thick", 17, 0);
    }
}
