import java.lang.reflect.Method;
import java.util.ArrayList;
import java.util.Arrays;
import java.util.Comparator;
import java.util.List;
import java.util.Random;

/** All promises: runs of calls, drawn from fixed seeds, on the class and on the model side by side. */
public final class ModelTest {
    private static final int RUNS = 400;
    private static final int CALLS = 512;
    private static final int[] EDGES = {-1, -2, 0, 1, 5, 6, 7, 9, 10, 20, 21, 25, 26, 31, 32, -31, -32, 63, 64, 65,
        Integer.MIN_VALUE, Integer.MAX_VALUE};
    private static final List<String> DRAWING = List.of("point", "point", "point", "lift", "nib");
    private static final Checks checks = new Checks("ModelTest");

    private final Random random;
    private final int run;
    private final NibLetters letters = new NibLetters();
    private final Model model = new Model();
    private final List<Method> methods = facedMethods();
    private final StringBuilder told = new StringBuilder();

    private ModelTest(int run) {
        this.run = run;
        random = new Random(7919L * run + 13);
    }

    public static void main(String[] args) throws ReflectiveOperationException {
        for (int run = 0; run < RUNS; run++) {
            new ModelTest(run).go();
        }
        checks.end();
    }

    private static List<Method> facedMethods() {
        List<Method> methods = new ArrayList<>(Arrays.asList(NibLetters.class.getDeclaredMethods()));
        methods.removeIf(method -> !java.lang.reflect.Modifier.isPublic(method.getModifiers()));
        methods.sort(Comparator.comparing(Method::getName));
        return methods;
    }

    private void go() throws ReflectiveOperationException {
        int drawn = random.nextInt(3);
        for (int i = 0; i < CALLS; i++) {
            String name = random.nextInt(4) < drawn ? DRAWING.get(random.nextInt(DRAWING.size())) : null;
            Method method = name == null ? methods.get(random.nextInt(methods.size())) : methodOf(name);
            if (rarelyWanted(method.getName()) && random.nextInt(4) != 0) {
                continue;
            }
            if (!answersAlike(method)) {
                return;
            }
        }
    }

    /** What empties the state is called less often, so that there is something to ask about. */
    private static boolean rarelyWanted(String name) {
        return List.of("drop", "undo", "forget", "spoil", "frame", "limit").contains(name);
    }

    private Method methodOf(String name) {
        return methods.stream().filter(method -> method.getName().equals(name)).findFirst().orElseThrow();
    }

    private boolean answersAlike(Method method) throws ReflectiveOperationException {
        Object[] arguments = new Object[method.getParameterCount()];
        int[] numbers = new int[3];
        for (int i = 0; i < arguments.length; i++) {
            numbers[i] = random.nextInt(40) == 0 ? EDGES[random.nextInt(EDGES.length)] : usual(method.getName(), i);
            arguments[i] = numbers[i];
        }
        told.append(method.getName()).append(Arrays.toString(arguments)).append(' ');
        long got = ((Number) method.invoke(letters, arguments)).longValue();
        long want = model.answer(method.getName(), numbers[0], numbers[1], numbers[2]);
        checks.due("run " + run + ": " + (got == want ? "" : told), got, want);
        return got == want;
    }

    private int usual(String name, int i) {
        switch (name) {
            case "nib": return i == 0 ? random.nextInt(7) : random.nextInt(13) - 6;
            case "point": return nearby();
            case "ink": return i == 0 ? random.nextInt(6) - 1 : random.nextInt(32);
            case "area": return random.nextInt(6) - 1;
            case "limit": return 1 + random.nextInt(random.nextBoolean() ? 6 : 20);
            case "keep": case "take": case "forget": return random.nextInt(14);
            case "ofLetter": return random.nextInt(i == 0 ? 14 : 7);
            case "apart": return i == 0 ? random.nextInt(14) : random.nextInt(63) - 31;
            case "fit": return random.nextInt(i == 0 ? 14 : 3);
            case "name": case "lesson": return random.nextInt(i == 0 ? 8 : 2);
            case "ofNib": case "pieces": case "likest": case "bestLimit": return random.nextInt(2);
            case "bestNib": return random.nextInt(3);
            case "frame": return random.nextInt(65);
            case "shoot": case "roll": return random.nextInt(i == 0 ? 12 : 32);
            case "seen": return random.nextInt(12);
            case "place": case "thick": return random.nextInt(i == 2 ? 2 : 4);
            default: return random.nextInt(5);
        }
    }

    /** In some runs all of the field, in others a corner of it, where points and letters meet more often. */
    private int nearby() {
        return run % 3 == 0 ? random.nextInt(32) : run % 3 == 1 ? 10 + random.nextInt(8) : random.nextInt(4) * 10;
    }
}
