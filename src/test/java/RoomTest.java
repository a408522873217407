import java.lang.management.ManagementFactory;

/** What a run makes: the dearest calls, as often as an object is used, must leave most of the room free. */
public final class RoomTest {
    // The room has 7.3 million fields and elements; a tenth of it, at four bytes each.
    private static final long MOST_BYTES = 7_300_000L * 4 / 10;
    private static final Checks checks = new Checks("RoomTest");

    public static void main(String[] args) {
        manyStrokes(40); // what the machine itself makes the first time is not counted
        checks.due("170 strokes, kept", manyStrokes(170) < MOST_BYTES ? 1 : 0, 1);
        checks.due("440 questions", manyQuestions() < MOST_BYTES ? 1 : 0, 1);
        checks.due("512 new objects", newObjects() < MOST_BYTES * 2 ? 1 : 0, 1);
        checks.end();
    }

    private static long made() {
        return ((com.sun.management.ThreadMXBean) ManagementFactory.getThreadMXBean())
                .getThreadAllocatedBytes(Thread.currentThread().getId());
    }

    private static long manyStrokes(int strokes) {
        long before = made();
        NibLetters x = new NibLetters();
        for (int i = 0; i < strokes; i++) {
            x.point(i % 32, i / 32);
            x.lift();
            x.keep(i % 10);
        }
        return made() - before;
    }

    private static long manyQuestions() {
        NibLetters x = new NibLetters();
        for (int name = 0; name < 10; name++) {
            Checks.letter(x, name, 3, 1, name, 3, 20, 20, 4, 30);
        }
        x.take(4);
        x.frame(64);
        long before = made();
        for (int i = 0; i < 55; i++) {
            x.likest(0);
            x.lesson(9, 0);
            x.kind(0);
            x.pieces(1);
            x.bestNib(0);
            x.frame(64);
            x.fit(3, 0);
            x.take(i % 10);
        }
        return made() - before;
    }

    private static long newObjects() {
        long before = made();
        long sum = 0;
        for (int i = 0; i < 512; i++) {
            sum += new NibLetters().ofNib(0);
        }
        checks.due("new objects", sum, 1024);
        return made() - before;
    }
}
