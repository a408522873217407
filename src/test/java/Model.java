import java.util.ArrayList;
import java.util.Comparator;
import java.util.HashSet;
import java.util.List;
import java.util.Set;
import java.util.TreeMap;
import java.util.TreeSet;

/** The document once more, by sets of places and other ways of reckoning, to hold the class against. */
final class Model {
    private static final Comparator<String> KIND_ORDER = Comparator.comparingInt(String::length).thenComparing(Comparator.naturalOrder());

    private int u = 2;
    private int v = -2;
    private int limit = 4;
    private final List<int[]> line = new ArrayList<>();
    private List<Pulled> sheet = new ArrayList<>();
    private final TreeMap<Integer, List<Pulled>> letters = new TreeMap<>();
    private List<Set<Integer>> frame = null;

    /** A stroke: its points, its nib, and its ink, as places y * 32 + x. */
    private record Pulled(List<int[]> points, int u, int v, Set<Integer> ink) {
        int steps() {
            return points.size() - 1;
        }

        int dx(int i) {
            return points.get(i + 1)[0] - points.get(i)[0];
        }

        int dy(int i) {
            return points.get(i + 1)[1] - points.get(i)[1];
        }

        List<int[]> ends() {
            return List.of(points.get(0), points.get(points.size() - 1));
        }
    }

    private static Pulled pull(List<int[]> points, int u, int v) {
        Set<Integer> ink = new HashSet<>();
        int last = points.size() - 1;
        for (int i = 0; i < Math.max(1, last); i++) {
            for (int place = 0; place < 1024; place++) {
                int x = place % 32;
                int y = place / 32;
                // The nib lies alike on both sides of its midst: it covers the place from a midst on
                // the step just if, laid on the place, it meets the step.
                if (meet(x - u, y - v, x + u, y + v, points.get(i), points.get(Math.min(i + 1, last)))) {
                    ink.add(place);
                }
            }
        }
        return new Pulled(points, u, v, Set.copyOf(ink));
    }

    private static int side(int ax, int ay, int bx, int by, int cx, int cy) {
        return Integer.signum((bx - ax) * (cy - ay) - (by - ay) * (cx - ax));
    }

    private static boolean inBox(int ax, int ay, int bx, int by, int cx, int cy) {
        return Math.min(ax, bx) <= cx && cx <= Math.max(ax, bx) && Math.min(ay, by) <= cy && cy <= Math.max(ay, by);
    }

    /** Whether two straight lines, ends and all, have a point in common. */
    private static boolean meet(int ax, int ay, int bx, int by, int[] c, int[] d) {
        int abc = side(ax, ay, bx, by, c[0], c[1]);
        int abd = side(ax, ay, bx, by, d[0], d[1]);
        int cda = side(c[0], c[1], d[0], d[1], ax, ay);
        int cdb = side(c[0], c[1], d[0], d[1], bx, by);
        return abc * abd < 0 && cda * cdb < 0
                || abc == 0 && inBox(ax, ay, bx, by, c[0], c[1])
                || abd == 0 && inBox(ax, ay, bx, by, d[0], d[1])
                || cda == 0 && inBox(c[0], c[1], d[0], d[1], ax, ay)
                || cdb == 0 && inBox(c[0], c[1], d[0], d[1], bx, by);
    }

    private static Set<Integer> inkOf(List<Pulled> strokes) {
        Set<Integer> ink = new HashSet<>();
        for (Pulled stroke : strokes) {
            ink.addAll(stroke.ink());
        }
        return ink;
    }

    private static Set<Integer> rowOf(Set<Integer> ink, int y) {
        Set<Integer> row = new TreeSet<>();
        for (int x = 0; x < 32; x++) {
            if (ink.contains(y * 32 + x)) {
                row.add(x);
            }
        }
        return row;
    }

    private static long numberOf(Set<Integer> row) {
        long number = 0;
        for (int x : row) {
            number += 1L << x;
        }
        return number;
    }

    private static int sortOf(int dx, int dy, int u, int v, int limit) {
        double apart = 2.0 * Math.abs(dx * v - dy * u) / Math.sqrt(dx * dx + dy * dy);
        if (dx * v == dy * u) {
            return 0;
        }
        // Squares of whole numbers are too close to be told apart by roots only when they are the same.
        return apart > limit - 1e-9 ? 2 : 1;
    }

    private static int wrongOf(Pulled s, int u, int v, int limit) {
        int wrong = 0;
        for (int i = 0; i < s.steps(); i++) {
            boolean full = sortOf(s.dx(i), s.dy(i), u, v, limit) == 2;
            if (s.dy(i) > 0 && !full || s.dy(i) < 0 && full) {
                wrong++;
            }
        }
        return wrong;
    }

    private int wrongBy(int tried) {
        return sheet.stream().mapToInt(s -> wrongOf(s, s.u, s.v, tried)).sum();
    }

    private String kindOf(Pulled s) {
        StringBuilder kind = new StringBuilder();
        for (int i = 0; i < s.steps(); i++) {
            kind.append(sortOf(s.dx(i), s.dy(i), s.u, s.v, limit));
        }
        return kind.toString().replaceAll("(.)\\1+", "$1");
    }

    private TreeSet<String> kindsOf(List<Pulled> strokes) {
        TreeSet<String> kinds = new TreeSet<>(KIND_ORDER);
        for (Pulled stroke : strokes) {
            kinds.add(kindOf(stroke));
        }
        return kinds;
    }

    private TreeSet<String> allKinds() {
        TreeSet<String> kinds = kindsOf(sheet);
        letters.values().forEach(letter -> kinds.addAll(kindsOf(letter)));
        return kinds;
    }

    /** Labels that sink to the least one of each piece; then how many labels there are. */
    private static int piecesOf(Set<Integer> places, boolean corners, boolean inside) {
        int[] label = new int[1024];
        for (int place = 0; place < 1024; place++) {
            label[place] = places.contains(place) ? place : -1;
        }
        boolean changed = true;
        while (changed) {
            changed = false;
            for (int p : places) {
                int sunk = label[p];
                for (int move = 0; move < 9; move++) {
                    int x = p % 32 + move % 3 - 1;
                    int y = p / 32 + move / 3 - 1;
                    boolean bySide = move % 2 == 1;
                    if ((corners || bySide) && places.contains(y * 32 + x) && in(x, 0, 31)) {
                        sunk = Math.min(sunk, label[y * 32 + x]);
                    }
                }
                changed |= sunk < label[p];
                label[p] = sunk;
            }
        }
        Set<Integer> labels = new HashSet<>();
        Set<Integer> atEdge = new HashSet<>();
        for (int p : places) {
            labels.add(label[p]);
            if (p % 32 == 0 || p % 32 == 31 || p / 32 == 0 || p / 32 == 31) {
                atEdge.add(label[p]);
            }
        }
        return labels.size() - (inside ? atEdge.size() : 0);
    }

    private static int piecesOrCounters(Set<Integer> ink, int what) {
        if (what == 0) {
            return piecesOf(ink, true, false);
        }
        Set<Integer> rest = new HashSet<>();
        for (int place = 0; place < 1024; place++) {
            if (!ink.contains(place)) {
                rest.add(place);
            }
        }
        return piecesOf(rest, false, true);
    }

    private static int apartOf(Set<Integer> sheetInk, Set<Integer> letterInk, int a, int b) {
        Set<Integer> moved = new HashSet<>();
        for (int place : sheetInk) {
            int x = place % 32 + a;
            int y = place / 32 + b;
            if (x >= 0 && x < 32 && y >= 0 && y < 32) {
                moved.add(y * 32 + x);
            }
        }
        Set<Integer> common = new HashSet<>(moved);
        common.retainAll(letterInk);
        return moved.size() + letterInk.size() - 2 * common.size();
    }

    private int[] fitOf(List<Pulled> letter) {
        int[] best = null;
        Set<Integer> sheetInk = inkOf(sheet);
        Set<Integer> letterInk = inkOf(letter);
        for (int a = -3; a <= 3; a++) {
            for (int b = -3; b <= 3; b++) {
                int apart = apartOf(sheetInk, letterInk, a, b);
                if (best == null || apart < best[0]) {
                    best = new int[] {apart, a, b};
                }
            }
        }
        return best;
    }

    private static boolean in(int number, int least, int greatest) {
        return least <= number && number <= greatest;
    }

    private Pulled strokeAt(int k) {
        return in(k, 0, sheet.size() - 1) ? sheet.get(k) : null;
    }

    /** Answers the call of a name with its arguments (those that it does not have are ignored). */
    long answer(String call, int p, int q, int r) {
        switch (call) {
            case "nib": return nib(p, q);
            case "ofNib": return p == 0 ? u : p == 1 ? v : -2;
            case "point": return point(p, q);
            case "drop": return drop();
            case "lift": return lift();
            case "undo":
                if (sheet.isEmpty()) {
                    return -3;
                }
                sheet.remove(sheet.size() - 1);
                return sheet.size();
            case "ofStroke": return ofStroke(strokeAt(p), q);
            case "place":
                if (strokeAt(p) == null || !in(q, 0, strokeAt(p).steps())) {
                    return -1;
                }
                return in(r, 0, 1) ? strokeAt(p).points.get(q)[r] : -2;
            case "ink":
                if (p != -1 && strokeAt(p) == null) {
                    return -1;
                }
                return in(q, 0, 31) ? numberOf(rowOf(p == -1 ? inkOf(sheet) : strokeAt(p).ink(), q)) : -2;
            case "area": return p == -1 ? inkOf(sheet).size() : strokeAt(p) == null ? -1 : strokeAt(p).ink().size();
            case "limit":
                int before = limit;
                limit = in(p, 1, 20) ? p : limit;
                return in(p, 1, 20) ? before : -2;
            case "thick": return thick(strokeAt(p), q, r);
            case "sort":
                Pulled s = strokeAt(p);
                return s == null || !in(q, 0, s.steps() - 1) ? -1 : sortOf(s.dx(q), s.dy(q), s.u, s.v, limit);
            case "wrong": return wrongBy(limit);
            case "join": return join(p, q);
            case "pieces": return in(p, 0, 1) ? piecesOrCounters(inkOf(sheet), p) : -2;
            default: return answerOfLetters(call, p, q, r);
        }
    }

    private long answerOfLetters(String call, int p, int q, int r) {
        List<Pulled> letter = letters.get(p);
        switch (call) {
            case "keep": return keep(p);
            case "take":
                if (letter == null) {
                    return -1;
                }
                sheet = new ArrayList<>(letter);
                return sheet.size();
            case "forget": return letters.remove(p) == null ? -1 : letters.size();
            case "name": return !in(p, 0, 9) ? -2 : p < letters.size() ? new ArrayList<>(letters.keySet()).get(p) : -9;
            case "ofLetter": return letter == null ? -1 : ofLetter(letter, q);
            case "kind": return strokeAt(p) == null ? -1 : allKinds().headSet(kindOf(strokeAt(p))).size();
            case "apart":
                if (letter == null) {
                    return -1;
                }
                return in(q, -31, 31) && in(r, -31, 31) ? apartOf(inkOf(sheet), inkOf(letter), q, r) : -2;
            case "fit": return letter == null ? -1 : in(q, 0, 2) ? fitOf(letter)[q] : -2;
            case "likest": return likest(p);
            case "lesson": return lesson(p, q);
            case "bestNib": return bestNib(p);
            case "bestLimit": return bestLimit(p);
            default: return answerOfFrame(call, p, q);
        }
    }

    private long answerOfFrame(String call, int p, int q) {
        switch (call) {
            case "frame":
                if (p > 64) {
                    return -2;
                }
                if (p < 0) {
                    return -14;
                }
                frame = new ArrayList<>();
                for (int i = 0; i < p; i++) {
                    frame.add(new TreeSet<>());
                }
                return p;
            case "shoot": return shoot(p, q);
            case "roll": return roll(p, q);
            case "seen": return frame == null ? -11 : in(p, 0, frame.size() - 1) ? numberOf(frame.get(p)) : -13;
            case "spoil":
                int had = frame == null ? -9 : frame.size();
                frame = null;
                return had;
            case "many": return many(p);
            default: throw new IllegalArgumentException(call);
        }
    }

    private int nib(int newU, int newV) {
        if (!in(newU, 0, 6) || !in(newV, -6, 6)) {
            return -2;
        }
        if (newU == 0 && newV == 0) {
            return -3;
        }
        u = newU;
        v = newV;
        return 1;
    }

    private int point(int x, int y) {
        if (!in(x, 0, 31) || !in(y, 0, 31)) {
            return -2;
        }
        if (!line.isEmpty() && line.get(line.size() - 1)[0] == x && line.get(line.size() - 1)[1] == y) {
            return -3;
        }
        if (line.size() == 8) {
            return -4;
        }
        line.add(new int[] {x, y});
        return line.size();
    }

    private int drop() {
        int points = line.size();
        line.clear();
        return points;
    }

    private int lift() {
        if (line.isEmpty()) {
            return -3;
        }
        if (sheet.size() == 6) {
            return -4;
        }
        sheet.add(pull(new ArrayList<>(line), u, v));
        line.clear();
        return sheet.size() - 1;
    }

    private int ofStroke(Pulled stroke, int what) {
        if (stroke == null) {
            return -1;
        }
        switch (what) {
            case 0: return stroke.points.size();
            case 1: return stroke.u;
            case 2: return stroke.v;
            case 3: return kindOf(stroke).length();
            case 4: return wrongOf(stroke, stroke.u, stroke.v, limit);
            default: return -2;
        }
    }

    private static int thick(Pulled s, int i, int which) {
        if (s == null || !in(i, 0, s.steps() - 1)) {
            return -1;
        }
        if (!in(which, 0, 1)) {
            return -2;
        }
        int twist = s.dx(i) * s.v - s.dy(i) * s.u;
        int upper = 4 * twist * twist;
        int lower = s.dx(i) * s.dx(i) + s.dy(i) * s.dy(i);
        for (int divisor = lower; divisor > 1; divisor--) {
            if (upper % divisor == 0 && lower % divisor == 0) {
                upper /= divisor;
                lower /= divisor;
            }
        }
        return which == 0 ? upper : lower;
    }

    private int join(int k, int l) {
        Pulled one = strokeAt(k);
        Pulled other = strokeAt(l);
        if (one == null || other == null) {
            return -1;
        }
        if (k == l) {
            return -3;
        }
        boolean inInk = false;
        for (int[] end : one.ends()) {
            for (int[] otherEnd : other.ends()) {
                if (end[0] == otherEnd[0] && end[1] == otherEnd[1]) {
                    return 3;
                }
                inInk |= other.ink().contains(end[1] * 32 + end[0]) || one.ink().contains(otherEnd[1] * 32 + otherEnd[0]);
            }
        }
        Set<Integer> common = new HashSet<>(one.ink());
        common.retainAll(other.ink());
        return inInk ? 2 : common.isEmpty() ? 0 : 1;
    }

    private int keep(int name) {
        if (!in(name, 0, 25)) {
            return -2;
        }
        if (sheet.isEmpty()) {
            return -3;
        }
        if (letters.size() == 10 && !letters.containsKey(name)) {
            return -4;
        }
        letters.put(name, sheet);
        sheet = new ArrayList<>();
        return letters.size();
    }

    private int ofLetter(List<Pulled> letter, int what) {
        switch (what) {
            case 0: return letter.size();
            case 1: return inkOf(letter).size();
            case 2: return piecesOrCounters(inkOf(letter), 0);
            case 3: return piecesOrCounters(inkOf(letter), 1);
            case 4: return kindsOf(letter).size();
            case 5: return inkOf(letter).stream().mapToInt(place -> place % 32).min().getAsInt();
            case 6: return inkOf(letter).stream().mapToInt(place -> place % 32).max().getAsInt();
            default: return -2;
        }
    }

    private int likest(int what) {
        if (!in(what, 0, 1)) {
            return -2;
        }
        int[] best = {-9, -9};
        for (int name : letters.keySet()) {
            int apart = fitOf(letters.get(name))[0];
            if (best[0] == -9 || apart < best[1]) {
                best = new int[] {name, apart};
            }
        }
        return best[what];
    }

    private int lesson(int k, int what) {
        if (!in(k, 0, 9) || !in(what, 0, 1)) {
            return -2;
        }
        if (k >= letters.size()) {
            return -9;
        }
        TreeMap<Integer, List<Pulled>> left = new TreeMap<>(letters);
        Set<String> known = new HashSet<>();
        List<int[]> lessons = new ArrayList<>();
        while (!left.isEmpty()) {
            int[] next = null;
            for (int name : left.keySet()) {
                Set<String> own = kindsOf(left.get(name));
                own.removeAll(known);
                if (next == null || own.size() < next[1]) {
                    next = new int[] {name, own.size()};
                }
            }
            known.addAll(kindsOf(left.remove(next[0])));
            lessons.add(next);
        }
        return lessons.get(k)[what];
    }

    private int bestNib(int what) {
        if (!in(what, 0, 2)) {
            return -2;
        }
        int[] best = null;
        for (int nib = 0; nib < 7 * 13; nib++) {
            int triedU = nib / 13;
            int triedV = nib % 13 - 6;
            int wrong = sheet.stream().mapToInt(s -> wrongOf(s, triedU, triedV, limit)).sum();
            if ((triedU != 0 || triedV != 0) && (best == null || wrong < best[2])) {
                best = new int[] {triedU, triedV, wrong};
            }
        }
        return best[what];
    }

    private int bestLimit(int what) {
        if (!in(what, 0, 1)) {
            return -2;
        }
        int best = 20;
        for (int tried = 19; tried >= 1; tried--) {
            best = wrongBy(tried) <= wrongBy(best) ? tried : best;
        }
        return what == 0 ? best : wrongBy(best);
    }

    private int shoot(int i, int y) {
        if (!in(y, 0, 31)) {
            return -2;
        }
        if (frame == null) {
            return -11;
        }
        if (!in(i, 0, frame.size() - 1)) {
            return -13;
        }
        frame.set(i, rowOf(inkOf(sheet), y));
        return frame.get(i).size();
    }

    private int roll(int i, int n) {
        if (!in(n, 0, 31)) {
            return -2;
        }
        if (frame == null) {
            return -11;
        }
        if (!in(i, 0, frame.size() - 1)) {
            return -13;
        }
        Set<Integer> rolled = new TreeSet<>();
        for (int x : frame.get(i)) {
            if (x - n >= 0) {
                rolled.add(x - n);
            }
        }
        frame.set(i, rolled);
        return rolled.size();
    }

    private int many(int what) {
        switch (what) {
            case 0: return line.size();
            case 1: return sheet.size();
            case 2: return sheet.stream().mapToInt(Pulled::steps).sum();
            case 3: return letters.size();
            case 4: return allKinds().size();
            case 5: return limit;
            default: return -2;
        }
    }
}
