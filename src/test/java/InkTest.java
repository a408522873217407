/** Promise 10 on all nibs: every step from one place, and every nib at one point, held against the model. */
public final class InkTest {
    private static final Checks checks = new Checks("InkTest");

    public static void main(String[] args) {
        for (int u = 0; u <= 6; u++) {
            for (int v = -6; v <= 6; v++) {
                if (u != 0 || v != 0) {
                    stepsWithNib(u, v);
                }
            }
        }
        checks.end();
    }

    private static void stepsWithNib(int u, int v) {
        for (int dx = -8; dx <= 8; dx++) {
            for (int dy = -8; dy <= 8; dy += 1 + (dx & 1)) {
                step(u, v, dx, dy);
            }
        }
    }

    private static void step(int u, int v, int dx, int dy) {
        NibLetters x = new NibLetters();
        Model model = new Model();
        x.nib(u, v);
        model.answer("nib", u, v, 0);
        x.point(12, 14);
        model.answer("point", 12, 14, 0);
        x.point(12 + dx, 14 + dy);
        model.answer("point", 12 + dx, 14 + dy, 0);
        x.lift();
        model.answer("lift", 0, 0, 0);
        String told = "nib (" + u + ", " + v + "), step (" + dx + ", " + dy + ")";
        checks.due(told + ", area", x.area(0), model.answer("area", 0, 0, 0));
        for (int y = 0; y < 32; y += 3) {
            checks.due(told + ", row " + y, x.ink(0, y), model.answer("ink", 0, y, 0));
        }
        checks.due(told + ", pieces", x.pieces(0), model.answer("pieces", 0, 0, 0));
    }
}
