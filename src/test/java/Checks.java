/** What all tests of the project share: counting wrong answers, drawing strokes, telling ink as a picture. */
final class Checks {
    private final String test;
    private int asked = 0;
    private int wrong = 0;

    Checks(String test) {
        this.test = test;
    }

    void due(String call, long got, long want) {
        asked++;
        if (got != want) {
            wrong++;
            System.out.println(test + ": " + call + " answered " + got + ", due is " + want);
        }
    }

    void due(String call, String got, String want) {
        asked++;
        if (!got.equals(want)) {
            wrong++;
            System.out.println(test + ": " + call + " answered\n" + got + "due is\n" + want);
        }
    }

    /** Tells what was found; ends the program with exit code 1 if something was wrong. */
    void end() {
        System.out.println(test + ": " + asked + " answers, " + wrong + " of them wrong");
        if (wrong != 0 || asked == 0) {
            System.exit(1);
        }
    }

    /** Leads the pen through the places x, y, x, y .. and lifts it: the number of the stroke. */
    static int stroke(NibLetters letters, int... places) {
        letters.drop();
        for (int i = 0; i + 1 < places.length; i += 2) {
            if (letters.point(places[i], places[i + 1]) != i / 2 + 1) {
                throw new IllegalStateException("a test draws what can't be drawn");
            }
        }
        return letters.lift();
    }

    /** Draws one stroke with a nib and keeps it as a letter. */
    static int letter(NibLetters letters, int name, int u, int v, int... places) {
        letters.nib(u, v);
        stroke(letters, places);
        return letters.keep(name);
    }

    /** The ink of a stroke (of all: -1) within left .. right and top .. bottom, a line of . and # each row. */
    static String picture(NibLetters letters, int k, int left, int top, int right, int bottom) {
        StringBuilder picture = new StringBuilder();
        for (int y = top; y <= bottom; y++) {
            long row = letters.ink(k, y);
            for (int x = left; x <= right; x++) {
                picture.append((row >> x & 1) != 0 ? '#' : '.');
            }
            picture.append('\n');
        }
        return picture.toString();
    }

    static String lines(String... lines) {
        return String.join("\n", lines) + "\n";
    }
}
