import java.lang.reflect.InvocationTargetException;
import java.lang.reflect.Method;
import java.lang.reflect.Modifier;
import java.util.ArrayList;
import java.util.Arrays;
import java.util.HashMap;
import java.util.List;
import java.util.Map;

/**
 * Sentences of the document, each with a run of calls on a new object that holds it. A run is a text of lines:
 *
 *   name(arguments)         a call whose answer is not looked at
 *   name(arguments) = due   a call with the answer that is due
 *   name(arguments) ! due   as above, and the call changes nothing that can be asked for
 *
 * draw(x, y, x, y ..) stands for a point at each place and a lift; its answer is that of the lift. A number may be MIN,
 * MAX or a name of the document's face; a row of ink may be told as a picture of . and #, from x 0 on. What follows
 * // is a remark. The model is asked, too, so that what is written here and what the model reckons agree.
 */
final class Script {
    private static final int MOST_CALLS = 512;
    private static final Map<String, Long> NAMED = named();
    private static final Map<String, Method> METHODS = methods();

    private final Checks checks;
    private final String rule;
    private final List<Call> calls = new ArrayList<>();

    private Script(Checks checks, String rule) {
        this.checks = checks;
        this.rule = rule;
    }

    /** One call of a run. */
    private record Call(String name, int[] numbers) {
    }

    /** An object that tells how often it was called, since the document tells nothing of it beyond 512 calls. */
    private static final class Counted {
        private final NibLetters letters = new NibLetters();
        private int count = 0;

        long ask(String name, int... numbers) {
            count++;
            if (count > MOST_CALLS) {
                throw new IllegalStateException("a test calls an object too often");
            }
            Object[] arguments = Arrays.stream(numbers).boxed().toArray();
            try {
                return ((Number) METHODS.get(name).invoke(letters, arguments)).longValue();
            } catch (IllegalAccessException | InvocationTargetException fault) {
                throw new IllegalStateException(name + Arrays.toString(numbers), fault);
            }
        }
    }

    private static Map<String, Long> named() {
        Map<String, Long> named = new HashMap<>();
        named.put("UNKNOWN", -1L);
        named.put("OUTSIDE", -2L);
        named.put("STATE", -3L);
        named.put("FULL", -4L);
        named.put("NONE", -9L);
        named.put("MISSING", -11L);
        named.put("INDEX", -13L);
        named.put("SIZE", -14L);
        named.put("MIN", (long) Integer.MIN_VALUE);
        named.put("MAX", (long) Integer.MAX_VALUE);
        return named;
    }

    private static Map<String, Method> methods() {
        Map<String, Method> methods = new HashMap<>();
        for (Method method : NibLetters.class.getDeclaredMethods()) {
            if (Modifier.isPublic(method.getModifiers())) {
                methods.put(method.getName(), method);
            }
        }
        return methods;
    }

    /** Holds a sentence of the document by a run of calls. */
    static void rule(Checks checks, String rule, String text) {
        Script script = new Script(checks, rule);
        Counted object = new Counted();
        Model model = new Model();
        int dues = 0;
        for (String line : text.split("\n")) {
            String written = line.replaceAll("//.*", "").trim();
            if (!written.isEmpty()) {
                dues += script.line(object, model, written);
            }
        }
        checks.due(rule + ": has answers that are due", dues > 0 ? 1 : 0, 1);
    }

    private int line(Counted object, Model model, String written) {
        int close = written.indexOf(')');
        String rest = written.substring(close + 1).trim();
        int before = calls.size();
        addCalls(written.substring(0, close));
        long got = 0;
        long reckoned = 0;
        for (Call call : calls.subList(before, calls.size())) {
            int[] three = Arrays.copyOf(call.numbers, 3);
            got = object.ask(call.name, call.numbers);
            reckoned = model.answer(call.name, three[0], three[1], three[2]);
        }
        if (rest.isEmpty()) {
            return 0;
        }
        long due = number(rest.substring(1).trim());
        checks.due(rule + ": " + written + ", call " + calls.size(), got, due);
        checks.due(rule + ": the model's " + written, reckoned, due);
        if (rest.charAt(0) == '!') {
            checks.due(rule + ": after " + written + "\n", told(calls), told(calls.subList(0, before)));
        } else if (rest.charAt(0) != '=') {
            throw new IllegalStateException(written);
        }
        return 1;
    }

    private void addCalls(String written) {
        int open = written.indexOf('(');
        String name = written.substring(0, open).trim();
        String inside = written.substring(open + 1).trim();
        int[] numbers = inside.isEmpty() ? new int[0]
                : Arrays.stream(inside.split(",")).mapToInt(one -> (int) number(one.trim())).toArray();
        if (!name.equals("draw")) {
            calls.add(new Call(name, numbers));
            return;
        }
        for (int i = 0; i < numbers.length; i += 2) {
            calls.add(new Call("point", new int[] {numbers[i], numbers[i + 1]}));
        }
        calls.add(new Call("lift", new int[0]));
    }

    private static long number(String written) {
        if (NAMED.containsKey(written)) {
            return NAMED.get(written);
        }
        if (written.startsWith(".") || written.startsWith("#")) {
            long row = 0;
            for (int x = 0; x < written.length(); x++) {
                row |= written.charAt(x) == '#' ? 1L << x : 0;
            }
            return row;
        }
        return Long.decode(written);
    }

    /** All that can be asked for of an object after some calls. The object is used up by it. */
    private static String told(List<Call> calls) {
        Counted object = new Counted();
        for (Call call : calls) {
            object.ask(call.name, call.numbers);
        }
        StringBuilder told = new StringBuilder("nib " + object.ask("ofNib", 0) + " " + object.ask("ofNib", 1) + ", many");
        for (int what = 0; what <= 5; what++) {
            told.append(' ').append(object.ask("many", what));
        }
        tellStrokes(object, told.append(", strokes"));
        tellFrame(object, told.append("; frame"));
        tellLine(object, told.append("; line"));
        tellLetters(object, told.append("; letters"));
        return told.append('\n').toString();
    }

    private static void tellStrokes(Counted object, StringBuilder told) {
        long strokes = object.ask("many", 1);
        for (int k = 0; k < strokes; k++) {
            told.append(" area ").append(object.ask("area", k)).append(" nib ").append(object.ask("ofStroke", k, 1));
            told.append(' ').append(object.ask("ofStroke", k, 2)).append(" points");
            long points = object.ask("ofStroke", k, 0);
            for (int i = 0; i < points; i++) {
                told.append(' ').append(object.ask("place", k, i, 0)).append(' ').append(object.ask("place", k, i, 1));
            }
        }
    }

    private static void tellFrame(Counted object, StringBuilder told) {
        for (int i = 0; i < 64; i++) {
            long row = object.ask("seen", i);
            if (row < 0) {
                break;
            }
            told.append(' ').append(row);
        }
        told.append(" rows ").append(object.ask("spoil"));
    }

    private static void tellLine(Counted object, StringBuilder told) {
        long points = object.ask("many", 0);
        if (object.ask("many", 1) == 6) {
            object.ask("undo");
        }
        int k = (int) object.ask("lift");
        for (int i = 0; i < points; i++) {
            told.append(' ').append(object.ask("place", k, i, 0)).append(' ').append(object.ask("place", k, i, 1));
        }
    }

    private static void tellLetters(Counted object, StringBuilder told) {
        long letters = object.ask("many", 3);
        for (int i = 0; i < letters; i++) {
            int name = (int) object.ask("name", i);
            told.append(" name ").append(name);
            for (int what = 1; what <= 6; what++) {
                told.append(' ').append(object.ask("ofLetter", name, what));
            }
            object.ask("take", name);
            told.append(" strokes");
            tellStrokes(object, told);
        }
    }
}
