import java.util.Arrays;

/**
 * Letters from hair lines: a pen with a broad nib is led along straight lines, and what it inks is
 * measured, kept as letters, compared and taught. The words in capitals are those of DOC.md.
 */
public final class NibLetters {
    public static final int UNKNOWN = -1, OUTSIDE = -2, STATE = -3, FULL = -4, NONE = -9, MISSING = -11, INDEX = -13, SIZE = -14;

    private static final int SIDE = 32;
    private static final int MOST_POINTS = 8;
    private static final int MOST_STROKES = 6;
    private static final int MOST_LETTERS = 10;
    private static final int NAMES = 26;
    private static final int MOST_ROWS = 64;
    private static final int NIB_REACH = 6;
    private static final int MOST_LIMIT = 20;
    private static final int FIT_REACH = 3;
    private static final int ALL = -1;
    private static final int SORT_HAIR = 0;
    private static final int SORT_THIN = 1;
    private static final int SORT_FULL = 2;
    private static final int NO_FAULT = 0;

    private int nibU = 2;
    private int nibV = -2;
    private int limitNow = 4;
    private final Line theLine = new Line();
    private final Page theSheet = new Page();
    private final Shelf theLetters = new Shelf();
    private final Frame theFrame = new Frame();
    // The rest is room to work in, made once because nothing that a run makes is given back.
    private final int[] sheetRows = new int[SIDE];
    private final int[] letterRows = new int[SIDE];
    private final Flood flood = new Flood();
    private final Kinds kinds = new Kinds();
    private final Fit fitFound = new Fit();
    private final Lessons lessons = new Lessons();

    public NibLetters() {
    }

    // ---- 1 strokes

    public int nib(int u, int v) {
        if (!within(u, 0, NIB_REACH) || !within(v, -NIB_REACH, NIB_REACH)) {
            return OUTSIDE;
        }
        if (u == 0 && v == 0) {
            return STATE;
        }
        nibU = u;
        nibV = v;
        return 1;
    }

    public int ofNib(int what) {
        switch (what) {
            case 0: return nibU;
            case 1: return nibV;
            default: return OUTSIDE;
        }
    }

    public int point(int x, int y) {
        if (!within(x, 0, SIDE - 1) || !within(y, 0, SIDE - 1)) {
            return OUTSIDE;
        }
        if (theLine.endsAt(x, y)) {
            return STATE;
        }
        return theLine.add(x, y) ? theLine.count : FULL;
    }

    public int drop() {
        int dropped = theLine.count;
        theLine.clear();
        return dropped;
    }

    public int lift() {
        if (theLine.count == 0) {
            return STATE;
        }
        if (theSheet.count >= MOST_STROKES) {
            return FULL;
        }
        theSheet.add(new Stroke(theLine, nibU, nibV));
        theLine.clear();
        return theSheet.count - 1;
    }

    public int undo() {
        if (theSheet.count == 0) {
            return STATE;
        }
        theSheet.removeLast();
        return theSheet.count;
    }

    public int ofStroke(int k, int what) {
        Stroke stroke = theSheet.at(k);
        if (stroke == null) {
            return UNKNOWN;
        }
        switch (what) {
            case 0: return stroke.count;
            case 1: return stroke.u;
            case 2: return stroke.v;
            case 3: return Kinds.lengthOf(stroke.kindCode(limitNow));
            case 4: return stroke.countWrong(stroke.u, stroke.v, limitNow);
            default: return OUTSIDE;
        }
    }

    public int place(int k, int i, int what) {
        Stroke stroke = theSheet.at(k);
        if (stroke == null || !within(i, 0, stroke.count - 1)) {
            return UNKNOWN;
        }
        switch (what) {
            case 0: return stroke.xs[i];
            case 1: return stroke.ys[i];
            default: return OUTSIDE;
        }
    }

    public long ink(int k, int y) {
        int[] rows = rowsOf(k);
        if (rows == null) {
            return UNKNOWN;
        }
        if (!within(y, 0, SIDE - 1)) {
            return OUTSIDE;
        }
        return withoutSign(rows[y]);
    }

    public int area(int k) {
        int[] rows = rowsOf(k);
        return rows == null ? UNKNOWN : countBits(rows);
    }

    // ---- 2 thick and thin

    public int limit(int v) {
        if (!within(v, 1, MOST_LIMIT)) {
            return OUTSIDE;
        }
        int before = limitNow;
        limitNow = v;
        return before;
    }

    public int thick(int k, int i, int which) {
        Stroke stroke = theSheet.at(k);
        if (stroke == null || !stroke.hasStep(i)) {
            return UNKNOWN;
        }
        if (!within(which, 0, 1)) {
            return OUTSIDE;
        }
        int upper = Stroke.thickUpper(stroke.stepX(i), stroke.stepY(i), stroke.u, stroke.v);
        int lower = Stroke.thickLower(stroke.stepX(i), stroke.stepY(i));
        int divisor = greatestDivisor(upper, lower);
        if (divisor == 0) {
            return 0;
        }
        return (which == 0 ? upper : lower) / divisor;
    }

    public int sort(int k, int i) {
        Stroke stroke = theSheet.at(k);
        if (stroke == null || !stroke.hasStep(i)) {
            return UNKNOWN;
        }
        return Stroke.sortOf(stroke.stepX(i), stroke.stepY(i), stroke.u, stroke.v, limitNow);
    }

    public int wrong() {
        return theSheet.countWrong(limitNow);
    }

    // ---- 3 joins

    public int join(int k, int l) {
        Stroke one = theSheet.at(k);
        Stroke other = theSheet.at(l);
        if (one == null || other == null) {
            return UNKNOWN;
        }
        if (k == l) {
            return STATE;
        }
        if (one.sharesEndWith(other)) {
            return 3;
        }
        if (one.hasEndInInkOf(other) || other.hasEndInInkOf(one)) {
            return 2;
        }
        return one.crossesInkOf(other) ? 1 : 0;
    }

    public int pieces(int what) {
        switch (what) {
            case 0: return flood.countPieces(gatherSheet());
            case 1: return flood.countCounters(gatherSheet());
            default: return OUTSIDE;
        }
    }

    // ---- 4 letters

    public int keep(int name) {
        if (!within(name, 0, NAMES - 1)) {
            return OUTSIDE;
        }
        if (theSheet.count == 0) {
            return STATE;
        }
        if (!theLetters.put(name, theSheet)) {
            return FULL;
        }
        theSheet.clear();
        return theLetters.count;
    }

    public int take(int name) {
        Page letter = theLetters.at(name);
        if (letter == null) {
            return UNKNOWN;
        }
        theSheet.copyFrom(letter);
        return theSheet.count;
    }

    public int forget(int name) {
        if (theLetters.at(name) == null) {
            return UNKNOWN;
        }
        theLetters.remove(name);
        return theLetters.count;
    }

    public int name(int k) {
        if (!within(k, 0, MOST_LETTERS - 1)) {
            return OUTSIDE;
        }
        return theLetters.nameAt(k);
    }

    public int ofLetter(int name, int what) {
        Page letter = theLetters.at(name);
        if (letter == null) {
            return UNKNOWN;
        }
        switch (what) {
            case 0: return letter.count;
            case 1: return countBits(gatherLetter(letter));
            case 2: return flood.countPieces(gatherLetter(letter));
            case 3: return flood.countCounters(gatherLetter(letter));
            case 4: return countKindsOf(letter);
            case 5: return leastX(gatherLetter(letter));
            case 6: return greatestX(gatherLetter(letter));
            default: return OUTSIDE;
        }
    }

    public int kind(int k) {
        Stroke stroke = theSheet.at(k);
        if (stroke == null) {
            return UNKNOWN;
        }
        gatherAllKinds();
        return kinds.countAhead(stroke.kindCode(limitNow));
    }

    public int apart(int name, int a, int b) {
        Page letter = theLetters.at(name);
        if (letter == null) {
            return UNKNOWN;
        }
        if (!within(a, -(SIDE - 1), SIDE - 1) || !within(b, -(SIDE - 1), SIDE - 1)) {
            return OUTSIDE;
        }
        return Fit.countApart(gatherSheet(), a, b, gatherLetter(letter));
    }

    public int fit(int name, int what) {
        Page letter = theLetters.at(name);
        if (letter == null) {
            return UNKNOWN;
        }
        if (!within(what, 0, 2)) {
            return OUTSIDE;
        }
        fitFound.find(gatherSheet(), gatherLetter(letter));
        switch (what) {
            case 0: return fitFound.least;
            case 1: return fitFound.a;
            default: return fitFound.b;
        }
    }

    public int likest(int what) {
        if (!within(what, 0, 1)) {
            return OUTSIDE;
        }
        int likestName = NONE;
        int least = NONE;
        int[] sheet = gatherSheet();
        for (int name = 0; name < NAMES; name++) {
            Page letter = theLetters.at(name);
            if (letter != null) {
                fitFound.find(sheet, gatherLetter(letter));
                if (likestName == NONE || fitFound.least < least) {
                    likestName = name;
                    least = fitFound.least;
                }
            }
        }
        return what == 0 ? likestName : least;
    }

    public int lesson(int k, int what) {
        if (!within(k, 0, MOST_LETTERS - 1) || !within(what, 0, 1)) {
            return OUTSIDE;
        }
        int lessonName = lessons.nameAt(k, theLetters, limitNow);
        return what == 0 || lessonName == NONE ? lessonName : lessons.newKinds;
    }

    // ---- 5 what is best

    public int bestNib(int what) {
        if (!within(what, 0, 2)) {
            return OUTSIDE;
        }
        int bestU = 0;
        int bestV = -NIB_REACH;
        int fewest = theSheet.countWrongWithNib(bestU, bestV, limitNow);
        for (int u = 0; u <= NIB_REACH; u++) {
            for (int v = -NIB_REACH; v <= NIB_REACH; v++) {
                if (u == 0 && v == 0) {
                    continue;
                }
                int found = theSheet.countWrongWithNib(u, v, limitNow);
                if (found < fewest) {
                    bestU = u;
                    bestV = v;
                    fewest = found;
                }
            }
        }
        switch (what) {
            case 0: return bestU;
            case 1: return bestV;
            default: return fewest;
        }
    }

    public int bestLimit(int what) {
        if (!within(what, 0, 1)) {
            return OUTSIDE;
        }
        int best = 1;
        int fewest = theSheet.countWrong(best);
        for (int tried = 2; tried <= MOST_LIMIT; tried++) {
            int found = theSheet.countWrong(tried);
            if (found < fewest) {
                best = tried;
                fewest = found;
            }
        }
        return what == 0 ? best : fewest;
    }

    // ---- 6 the frame

    public int frame(int n) {
        if (n > MOST_ROWS) {
            return OUTSIDE;
        }
        if (n < 0) {
            return SIZE;
        }
        theFrame.open(n);
        return n;
    }

    public int shoot(int i, int y) {
        if (!within(y, 0, SIDE - 1)) {
            return OUTSIDE;
        }
        int fault = theFrame.faultAt(i);
        if (fault != NO_FAULT) {
            return fault;
        }
        theFrame.rows[i] = gatherSheet()[y];
        return Integer.bitCount(theFrame.rows[i]);
    }

    public int roll(int i, int n) {
        if (!within(n, 0, SIDE - 1)) {
            return OUTSIDE;
        }
        int fault = theFrame.faultAt(i);
        if (fault != NO_FAULT) {
            return fault;
        }
        theFrame.rows[i] = theFrame.rows[i] >>> n;
        return Integer.bitCount(theFrame.rows[i]);
    }

    public long seen(int i) {
        int fault = theFrame.faultAt(i);
        return fault != NO_FAULT ? fault : withoutSign(theFrame.rows[i]);
    }

    public int spoil() {
        int had = theFrame.length;
        theFrame.close();
        return had;
    }

    public int many(int what) {
        switch (what) {
            case 0: return theLine.count;
            case 1: return theSheet.count;
            case 2: return theSheet.countSteps();
            case 3: return theLetters.count;
            case 4:
                gatherAllKinds();
                return kinds.count;
            case 5: return limitNow;
            default: return OUTSIDE;
        }
    }

    // ---- helpers

    private static boolean within(int value, int least, int greatest) {
        return value >= least && value <= greatest;
    }

    private static long withoutSign(int row) {
        return row & 0xFFFFFFFFL;
    }

    /** The rows of INK of a STROKE of THE SHEET or of ALL of them; null, if there is no such STROKE. */
    private int[] rowsOf(int k) {
        if (k == ALL) {
            return gatherSheet();
        }
        Stroke stroke = theSheet.at(k);
        return stroke == null ? null : stroke.rows;
    }

    private int[] gatherSheet() {
        theSheet.gatherInk(sheetRows);
        return sheetRows;
    }

    private int[] gatherLetter(Page letter) {
        letter.gatherInk(letterRows);
        return letterRows;
    }

    private int countKindsOf(Page letter) {
        kinds.clear();
        kinds.addAll(letter, limitNow);
        return kinds.count;
    }

    private void gatherAllKinds() {
        kinds.clear();
        kinds.addAll(theSheet, limitNow);
        for (int name = 0; name < NAMES; name++) {
            Page letter = theLetters.at(name);
            if (letter != null) {
                kinds.addAll(letter, limitNow);
            }
        }
    }

    private static int countBits(int[] rows) {
        int sum = 0;
        for (int row : rows) {
            sum += Integer.bitCount(row);
        }
        return sum;
    }

    private static int columnsOf(int[] rows) {
        int columns = 0;
        for (int row : rows) {
            columns |= row;
        }
        return columns;
    }

    private static int leastX(int[] rows) {
        int columns = columnsOf(rows);
        for (int x = 0; x < SIDE; x++) {
            if ((columns >>> x & 1) != 0) {
                return x;
            }
        }
        return NONE;
    }

    private static int greatestX(int[] rows) {
        int columns = columnsOf(rows);
        for (int x = SIDE - 1; x >= 0; x--) {
            if ((columns >>> x & 1) != 0) {
                return x;
            }
        }
        return NONE;
    }

    private static int greatestDivisor(int one, int other) {
        int large = one;
        int small = other;
        // Each two rounds halve the greater number, so 64 are enough for any int.
        for (int round = 0; round < 64 && small != 0; round++) {
            int rest = large % small;
            large = small;
            small = rest;
        }
        return large;
    }

    /** THE LINE: the POINTS that are not LIFTED yet. */
    private static final class Line {
        private final int[] xs = new int[MOST_POINTS];
        private final int[] ys = new int[MOST_POINTS];
        private int count = 0;

        boolean endsAt(int x, int y) {
            return count > 0 && xs[count - 1] == x && ys[count - 1] == y;
        }

        boolean add(int x, int y) {
            if (count >= MOST_POINTS) {
                return false;
            }
            xs[count] = x;
            ys[count] = y;
            count++;
            return true;
        }

        void clear() {
            count = 0;
        }
    }

    /** A LIFTED line with its NIB. It never changes, so that THE SHEET and LETTERS can share it. */
    private static final class Stroke {
        private final int count;
        private final int u;
        private final int v;
        private final int[] xs;
        private final int[] ys;
        private final int[] rows = new int[SIDE];

        Stroke(Line line, int nibU, int nibV) {
            count = line.count;
            u = nibU;
            v = nibV;
            xs = Arrays.copyOf(line.xs, MOST_POINTS);
            ys = Arrays.copyOf(line.ys, MOST_POINTS);
            if (count == 1) {
                inkBetween(0, 0);
            }
            for (int i = 0; i + 1 < count; i++) {
                inkBetween(i, i + 1);
            }
        }

        private void inkBetween(int from, int to) {
            int x0 = xs[from];
            int y0 = ys[from];
            int dx = xs[to] - x0;
            int dy = ys[to] - y0;
            int left = Math.max(0, Math.min(x0, xs[to]) - u);
            int right = Math.min(SIDE - 1, Math.max(x0, xs[to]) + u);
            int top = Math.max(0, Math.min(y0, ys[to]) - Math.abs(v));
            int bottom = Math.min(SIDE - 1, Math.max(y0, ys[to]) + Math.abs(v));
            for (int y = top; y <= bottom; y++) {
                for (int x = left; x <= right; x++) {
                    if (covers(x - x0, y - y0, dx, dy)) {
                        rows[y] |= 1 << x;
                    }
                }
            }
        }

        /**
         * Whether the nib, led from (0, 0) to (dx, dy), covers (x, y). With (x, y) as s times (dx, dy)
         * and t times (u, v), that is s 0 .. 1 and t -1 .. 1; both are looked at times TWIST, to stay
         * with whole numbers.
         */
        private boolean covers(int x, int y, int dx, int dy) {
            int twist = dx * v - dy * u;
            int alongStep = x * v - y * u;
            if (twist == 0) {
                return alongStep == 0 && coversOnItsLine(x * u + y * v, dx * u + dy * v);
            }
            int alongNib = dx * y - dy * x;
            if (twist < 0) {
                twist = -twist;
                alongStep = -alongStep;
            }
            return within(alongStep, 0, twist) && within(alongNib, -twist, twist);
        }

        /** As above, where the nib is led along itself or stays: all is on one line, told by its share of the nib. */
        private boolean coversOnItsLine(int at, int end) {
            int reach = u * u + v * v;
            return within(at, Math.min(0, end) - reach, Math.max(0, end) + reach);
        }

        int countSteps() {
            return count - 1;
        }

        boolean hasStep(int i) {
            return i >= 0 && i < count - 1;
        }

        int stepX(int i) {
            return hasStep(i) ? xs[i + 1] - xs[i] : 0;
        }

        int stepY(int i) {
            return hasStep(i) ? ys[i + 1] - ys[i] : 0;
        }

        static int thickUpper(int dx, int dy, int nibU, int nibV) {
            int twist = dx * nibV - dy * nibU;
            return 4 * twist * twist;
        }

        static int thickLower(int dx, int dy) {
            return dx * dx + dy * dy;
        }

        static int sortOf(int dx, int dy, int nibU, int nibV, int limit) {
            int upper = thickUpper(dx, dy, nibU, nibV);
            if (upper == 0) {
                return SORT_HAIR;
            }
            return upper >= limit * limit * thickLower(dx, dy) ? SORT_FULL : SORT_THIN;
        }

        private static boolean isWrong(int dx, int dy, int nibU, int nibV, int limit) {
            if (dy == 0) {
                return false;
            }
            boolean isFull = sortOf(dx, dy, nibU, nibV, limit) == SORT_FULL;
            return dy > 0 ? !isFull : isFull;
        }

        int countWrong(int nibU, int nibV, int limit) {
            int sum = 0;
            for (int i = 0; i + 1 < count; i++) {
                if (isWrong(stepX(i), stepY(i), nibU, nibV, limit)) {
                    sum++;
                }
            }
            return sum;
        }

        /** The KIND as one number whose order is that of KINDS: digits 1 .. 3 to the base of 4. */
        int kindCode(int limit) {
            int code = 0;
            int last = NONE;
            for (int i = 0; i + 1 < count; i++) {
                int next = sortOf(stepX(i), stepY(i), u, v, limit);
                if (next != last) {
                    code = code * 4 + next + 1;
                    last = next;
                }
            }
            return code;
        }

        private boolean hasEnd(int x, int y) {
            return count > 0 && (xs[0] == x && ys[0] == y || xs[count - 1] == x && ys[count - 1] == y);
        }

        private boolean hasInk(int x, int y) {
            return within(x, 0, SIDE - 1) && within(y, 0, SIDE - 1) && (rows[y] >>> x & 1) != 0;
        }

        boolean sharesEndWith(Stroke other) {
            return count > 0 && (other.hasEnd(xs[0], ys[0]) || other.hasEnd(xs[count - 1], ys[count - 1]));
        }

        boolean hasEndInInkOf(Stroke other) {
            return count > 0 && (other.hasInk(xs[0], ys[0]) || other.hasInk(xs[count - 1], ys[count - 1]));
        }

        void addInkTo(int[] sum) {
            for (int y = 0; y < SIDE; y++) {
                sum[y] |= rows[y];
            }
        }

        boolean crossesInkOf(Stroke other) {
            for (int y = 0; y < SIDE; y++) {
                if ((rows[y] & other.rows[y]) != 0) {
                    return true;
                }
            }
            return false;
        }
    }

    /** STROKES in their order: THE SHEET, or those of a LETTER. Where there is none, there is null. */
    private static final class Page {
        private final Stroke[] strokes = new Stroke[MOST_STROKES];
        private int count = 0;

        Stroke at(int k) {
            return within(k, 0, MOST_STROKES - 1) ? strokes[k] : null;
        }

        void add(Stroke stroke) {
            if (count < MOST_STROKES) {
                strokes[count] = stroke;
                count++;
            }
        }

        void removeLast() {
            if (count > 0) {
                count--;
                strokes[count] = null;
            }
        }

        void clear() {
            for (int k = 0; k < MOST_STROKES; k++) {
                strokes[k] = null;
            }
            count = 0;
        }

        void copyFrom(Page other) {
            for (int k = 0; k < MOST_STROKES; k++) {
                strokes[k] = other.strokes[k];
            }
            count = other.count;
        }

        void gatherInk(int[] rows) {
            Arrays.fill(rows, 0);
            for (Stroke stroke : strokes) {
                if (stroke != null) {
                    stroke.addInkTo(rows);
                }
            }
        }

        int countSteps() {
            int sum = 0;
            for (Stroke stroke : strokes) {
                if (stroke != null) {
                    sum += stroke.countSteps();
                }
            }
            return sum;
        }

        int countWrong(int limit) {
            int sum = 0;
            for (Stroke stroke : strokes) {
                if (stroke != null) {
                    sum += stroke.countWrong(stroke.u, stroke.v, limit);
                }
            }
            return sum;
        }

        int countWrongWithNib(int nibU, int nibV, int limit) {
            int sum = 0;
            for (Stroke stroke : strokes) {
                if (stroke != null) {
                    sum += stroke.countWrong(nibU, nibV, limit);
                }
            }
            return sum;
        }
    }

    /** LETTERS by their NAMES. */
    private static final class Shelf {
        private final Page[] pages = new Page[NAMES];
        private int count = 0;

        Page at(int name) {
            return within(name, 0, NAMES - 1) ? pages[name] : null;
        }

        /** False, and nothing is put, if there are as many others as there may be. */
        boolean put(int name, Page page) {
            if (!within(name, 0, NAMES - 1)) {
                return false;
            }
            if (pages[name] == null) {
                if (count >= MOST_LETTERS) {
                    return false;
                }
                pages[name] = new Page();
                count++;
            }
            pages[name].copyFrom(page);
            return true;
        }

        void remove(int name) {
            if (at(name) != null) {
                pages[name] = null;
                count--;
            }
        }

        int nameAt(int k) {
            int ahead = 0;
            for (int name = 0; name < NAMES; name++) {
                if (pages[name] != null) {
                    if (ahead == k) {
                        return name;
                    }
                    ahead++;
                }
            }
            return NONE;
        }
    }

    /** Unlike KINDS, as the numbers that Stroke.kindCode tells. */
    private static final class Kinds {
        private final int[] codes = new int[(MOST_LETTERS + 1) * MOST_STROKES];
        private int count = 0;

        static int lengthOf(int code) {
            int length = 0;
            for (int digit = 0; digit < MOST_POINTS; digit++) {
                if ((code >>> 2 * digit & 3) != 0) {
                    length++;
                }
            }
            return length;
        }

        void clear() {
            count = 0;
        }

        void addAll(Page page, int limit) {
            for (Stroke stroke : page.strokes) {
                if (stroke != null) {
                    add(stroke.kindCode(limit));
                }
            }
        }

        private void add(int code) {
            if (!has(code) && count < codes.length) {
                codes[count] = code;
                count++;
            }
        }

        private boolean has(int code) {
            for (int i = 0; i < count; i++) {
                if (codes[i] == code) {
                    return true;
                }
            }
            return false;
        }

        int countAhead(int code) {
            int sum = 0;
            for (int i = 0; i < count; i++) {
                if (codes[i] < code) {
                    sum++;
                }
            }
            return sum;
        }

        int countNotIn(Kinds others) {
            int sum = 0;
            for (int i = 0; i < count; i++) {
                if (!others.has(codes[i])) {
                    sum++;
                }
            }
            return sum;
        }
    }

    /** Counts what hangs together, by taking one piece after another away. */
    private static final class Flood {
        private final int[] left = new int[SIDE];
        private final int[] queue = new int[SIDE * SIDE];
        private int tail = 0;

        int countPieces(int[] ink) {
            for (int y = 0; y < SIDE; y++) {
                left[y] = ink[y];
            }
            return countLeft(true);
        }

        int countCounters(int[] ink) {
            for (int y = 0; y < SIDE; y++) {
                left[y] = ~ink[y];
            }
            // What touches the edge is no counter, so it goes uncounted.
            for (int i = 0; i < SIDE; i++) {
                removePiece(i, 0, false);
                removePiece(i, SIDE - 1, false);
                removePiece(0, i, false);
                removePiece(SIDE - 1, i, false);
            }
            return countLeft(false);
        }

        private int countLeft(boolean byCorners) {
            int sum = 0;
            for (int y = 0; y < SIDE; y++) {
                for (int x = 0; x < SIDE && left[y] != 0; x++) {
                    if (removePiece(x, y, byCorners)) {
                        sum++;
                    }
                }
            }
            return sum;
        }

        /** False, if (x, y) is not left. */
        private boolean removePiece(int x, int y, boolean byCorners) {
            tail = 0;
            removePlace(x, y);
            for (int head = 0; head < queue.length && head < tail; head++) {
                int midX = queue[head] % SIDE;
                int midY = queue[head] / SIDE;
                removePlace(midX - 1, midY);
                removePlace(midX + 1, midY);
                removePlace(midX, midY - 1);
                removePlace(midX, midY + 1);
                if (byCorners) {
                    removePlace(midX - 1, midY - 1);
                    removePlace(midX + 1, midY - 1);
                    removePlace(midX - 1, midY + 1);
                    removePlace(midX + 1, midY + 1);
                }
            }
            return tail > 0;
        }

        private void removePlace(int x, int y) {
            if (!within(x, 0, SIDE - 1) || !within(y, 0, SIDE - 1) || (left[y] >>> x & 1) == 0) {
                return;
            }
            left[y] &= ~(1 << x);
            if (tail < queue.length) {
                queue[tail] = y * SIDE + x;
                tail++;
            }
        }
    }

    /** FIT of one LETTER, as it was found last. */
    private static final class Fit {
        private int least = 0;
        private int a = 0;
        private int b = 0;

        void find(int[] sheet, int[] letter) {
            least = SIDE * SIDE + 1;
            for (int triedA = -FIT_REACH; triedA <= FIT_REACH; triedA++) {
                for (int triedB = -FIT_REACH; triedB <= FIT_REACH; triedB++) {
                    int found = countApart(sheet, triedA, triedB, letter);
                    if (found < least) {
                        least = found;
                        a = triedA;
                        b = triedB;
                    }
                }
            }
        }

        static int countApart(int[] sheet, int a, int b, int[] letter) {
            int sum = 0;
            for (int y = 0; y < SIDE; y++) {
                int from = y - b;
                int row = within(from, 0, SIDE - 1) ? sheet[from] : 0;
                int moved = a >= 0 ? row << a : row >>> -a;
                sum += Integer.bitCount(moved ^ letter[y]);
            }
            return sum;
        }
    }

    /** LESSONS, gone through from the first one on each time that one is asked for. */
    private static final class Lessons {
        private final Kinds known = new Kinds();
        private final Kinds own = new Kinds();
        private int newKinds = 0;

        /** The NAME of the k-th LETTER, with newKinds as it is there; NONE, if there are fewer. */
        int nameAt(int k, Shelf shelf, int limit) {
            known.clear();
            int name = NONE;
            int taught = 0;
            for (int round = 0; round <= k; round++) {
                name = nextName(shelf, taught, limit);
                Page letter = shelf.at(name);
                if (letter == null) {
                    return NONE;
                }
                taught |= 1 << name;
                known.addAll(letter, limit);
            }
            return name;
        }

        /** The bits of taught stand for the NAMES of LETTERS that are no longer left. */
        private int nextName(Shelf shelf, int taught, int limit) {
            int next = NONE;
            for (int name = 0; name < NAMES; name++) {
                Page letter = shelf.at(name);
                if (letter == null || (taught >>> name & 1) != 0) {
                    continue;
                }
                own.clear();
                own.addAll(letter, limit);
                int found = own.countNotIn(known);
                if (next == NONE || found < newKinds) {
                    next = name;
                    newKinds = found;
                }
            }
            return next;
        }
    }

    /** THE FRAME. Its rows are there from the start; length tells how many of them it has. */
    private static final class Frame {
        private final int[] rows = new int[MOST_ROWS];
        private int length = NONE;

        void open(int n) {
            Arrays.fill(rows, 0);
            length = n;
        }

        void close() {
            length = NONE;
        }

        int faultAt(int i) {
            if (length == NONE) {
                return MISSING;
            }
            return within(i, 0, length - 1) ? NO_FAULT : INDEX;
        }
    }
}
