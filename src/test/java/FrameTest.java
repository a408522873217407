/** Promises 30 to 35: THE FRAME, and how many there are. */
public final class FrameTest {
    private static final Checks checks = new Checks("FrameTest");

    public static void main(String[] args) {
        frame();
        shoot();
        roll();
        seen();
        spoil();
        many();
        checks.end();
    }

    private static void frame() {
        NibLetters x = new NibLetters();
        checks.due("frame(65)", x.frame(65), NibLetters.OUTSIDE);
        checks.due("frame(-1)", x.frame(-1), NibLetters.SIZE);
        checks.due("frame(MIN)", x.frame(Integer.MIN_VALUE), NibLetters.SIZE);
        checks.due("frame(MAX)", x.frame(Integer.MAX_VALUE), NibLetters.OUTSIDE);
        checks.due("no frame yet", x.seen(0), NibLetters.MISSING);
        checks.due("frame(64)", x.frame(64), 64);
        checks.due("row 63", x.seen(63), 0);
        checks.due("row 64", x.seen(64), NibLetters.INDEX);
        Checks.stroke(x, 5, 5);
        x.shoot(2, 5);
        checks.due("frame(65) changes nothing", x.frame(65), NibLetters.OUTSIDE);
        checks.due("frame(-1) changes nothing", x.frame(-1), NibLetters.SIZE);
        checks.due("row 2", x.seen(2), 32);
        checks.due("frame(3)", x.frame(3), 3);
        checks.due("row 2 is 0", x.seen(2), 0);
        checks.due("row 3 is gone", x.seen(3), NibLetters.INDEX);
        checks.due("frame(0)", x.frame(0), 0);
        checks.due("it has no row", x.seen(0), NibLetters.INDEX);
    }

    private static void shoot() {
        NibLetters x = new NibLetters();
        checks.due("no frame, and outside", x.shoot(0, 32), NibLetters.OUTSIDE);
        checks.due("no frame", x.shoot(99, 31), NibLetters.MISSING);
        x.frame(2);
        x.nib(1, 0);
        Checks.stroke(x, 31, 7);
        Checks.stroke(x, 4, 7, 6, 7);
        checks.due("shoot(1, 7)", x.shoot(1, 7), 7);
        checks.due("row 1", x.seen(1), 0xC00000F8L);
        checks.due("row 0", x.seen(0), 0);
        x.undo();
        checks.due("it stays as it was shot", x.seen(1), 0xC00000F8L);
        checks.due("shoot(1, 8)", x.shoot(1, 8), 0);
        checks.due("row 1 is empty", x.seen(1), 0);
        checks.due("row 2", x.shoot(2, 7), NibLetters.INDEX);
        checks.due("row -1", x.shoot(-1, 7), NibLetters.INDEX);
        checks.due("y 32, row -1", x.shoot(-1, 32), NibLetters.OUTSIDE);
        checks.due("y -1", x.shoot(0, -1), NibLetters.OUTSIDE);
        checks.due("y 0", x.shoot(0, 0), 0);
    }

    private static void roll() {
        NibLetters x = new NibLetters();
        checks.due("no frame, and outside", x.roll(0, -1), NibLetters.OUTSIDE);
        checks.due("no frame", x.roll(0, 0), NibLetters.MISSING);
        x.frame(2);
        x.nib(1, 0);
        Checks.stroke(x, 31, 7);
        Checks.stroke(x, 4, 7, 6, 7);
        x.shoot(1, 7);
        checks.due("roll(1, 0)", x.roll(1, 0), 7);
        checks.due("seen then", x.seen(1), 0xC00000F8L);
        checks.due("roll(1, 4)", x.roll(1, 4), 6);
        checks.due("seen after 4", x.seen(1), 0x0C00000FL);
        checks.due("roll(1, 27)", x.roll(1, 27), 1);
        checks.due("seen after 27 more", x.seen(1), 1);
        x.shoot(0, 7);
        checks.due("roll(0, 31)", x.roll(0, 31), 1);
        checks.due("seen after 31", x.seen(0), 1);
        checks.due("n 32", x.roll(0, 32), NibLetters.OUTSIDE);
        checks.due("n 32, row 2", x.roll(2, 32), NibLetters.OUTSIDE);
        checks.due("row 2", x.roll(2, 1), NibLetters.INDEX);
        checks.due("row -1", x.roll(-1, 1), NibLetters.INDEX);
        checks.due("refusals change nothing", x.seen(0), 1);
        checks.due("the ink stays", x.ink(-1, 7), 0xC00000F8L);
    }

    private static void seen() {
        NibLetters x = new NibLetters();
        checks.due("no frame", x.seen(-1), NibLetters.MISSING);
        x.frame(1);
        x.nib(6, 0);
        Checks.stroke(x, 0, 3, 31, 3);
        checks.due("a whole row, how many", x.shoot(0, 3), 32);
        checks.due("a whole row has no sign", x.seen(0), 4294967295L);
        checks.due("row 1", x.seen(1), NibLetters.INDEX);
        checks.due("row -1", x.seen(-1), NibLetters.INDEX);
        checks.due("row MIN", x.seen(Integer.MIN_VALUE), NibLetters.INDEX);
        checks.due("row MAX", x.seen(Integer.MAX_VALUE), NibLetters.INDEX);
    }

    private static void spoil() {
        NibLetters x = new NibLetters();
        checks.due("no frame", x.spoil(), NibLetters.NONE);
        x.frame(5);
        checks.due("five rows", x.spoil(), 5);
        checks.due("it is gone", x.spoil(), NibLetters.NONE);
        checks.due("seen", x.seen(0), NibLetters.MISSING);
        checks.due("shoot", x.shoot(0, 0), NibLetters.MISSING);
        checks.due("roll", x.roll(0, 0), NibLetters.MISSING);
        x.frame(0);
        checks.due("a frame without rows", x.spoil(), 0);
        checks.due("that is gone, too", x.spoil(), NibLetters.NONE);
    }

    private static void many() {
        NibLetters x = new NibLetters();
        x.nib(3, 0);
        Checks.stroke(x, 5, 5, 5, 9);
        Checks.stroke(x, 5, 5, 9, 5);
        x.keep(0);
        Checks.letter(x, 6, 3, 0, 4, 4, 4, 7);
        Checks.stroke(x, 5, 5, 5, 9, 9, 9, 9, 5);
        Checks.stroke(x, 5, 5);
        Checks.stroke(x, 5, 9, 5, 5);
        x.point(1, 1);
        x.point(1, 2);
        x.limit(6);
        checks.due("points", x.many(0), 2);
        checks.due("strokes", x.many(1), 3);
        checks.due("steps", x.many(2), 4);
        checks.due("letters", x.many(3), 2);
        checks.due("kinds: none; hair; full; full, hair, full", x.many(4), 4);
        checks.due("limit", x.many(5), 6);
        checks.due("what 6", x.many(6), NibLetters.OUTSIDE);
        checks.due("what -1", x.many(-1), NibLetters.OUTSIDE);
        x.take(6);
        checks.due("kinds: hair; full", x.many(4), 2);
    }
}
