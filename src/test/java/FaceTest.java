import java.io.IOException;
import java.lang.reflect.Constructor;
import java.lang.reflect.Field;
import java.lang.reflect.Member;
import java.lang.reflect.Method;
import java.lang.reflect.Modifier;
import java.nio.file.Files;
import java.nio.file.Path;
import java.util.Arrays;
import java.util.Set;
import java.util.TreeSet;
import java.util.regex.Matcher;
import java.util.regex.Pattern;

/** The public face of the document, and those rules of LANGUAGE.md that can be seen from outside. Run from the project's folder. */
public final class FaceTest {
    private static final Checks checks = new Checks("FaceTest");
    private static final String METHODS = "apart(3)i area(1)i bestLimit(1)i bestNib(1)i drop(0)i fit(2)i forget(1)i frame(1)i "
            + "ink(2)l join(2)i keep(1)i kind(1)i lesson(2)i lift(0)i likest(1)i limit(1)i many(1)i name(1)i nib(2)i "
            + "ofLetter(2)i ofNib(1)i ofStroke(2)i pieces(1)i place(3)i point(2)i roll(2)i seen(1)l shoot(2)i sort(2)i "
            + "spoil(0)i take(1)i thick(3)i undo(0)i wrong(0)i";
    private static final String CONSTANTS = "FULL=-4 INDEX=-13 MISSING=-11 NONE=-9 OUTSIDE=-2 SIZE=-14 STATE=-3 UNKNOWN=-1";
    private static final String[] BANNED = {"throw", "throws", "try", "catch", "finally", "synchronized", "assert", "protected",
        "->", "::", "System.out", "Exact", "@", "hashCode", "Random", "Thread", "nanoTime", "currentTimeMillis", "package"};

    public static void main(String[] args) throws IOException, ReflectiveOperationException {
        face();
        classesInside();
        source(Files.readString(Path.of("src/main/java/NibLetters.java")));
        checks.end();
    }

    private static void face() throws ReflectiveOperationException {
        Set<String> methods = new TreeSet<>();
        Set<String> privates = new TreeSet<>();
        for (Method method : NibLetters.class.getDeclaredMethods()) {
            if (isPublic(method)) {
                String result = method.getReturnType() == long.class ? "l" : "i";
                methods.add(method.getName() + "(" + method.getParameterCount() + ")" + result);
            } else {
                checks.due(method + " is private", Modifier.isPrivate(method.getModifiers()) ? 1 : 0, 1);
                privates.add(method.getName());
            }
        }
        checks.due("the methods", String.join(" ", methods), METHODS);
        for (String name : privates) {
            checks.due(name + " is no public name", METHODS.matches("(.* )?" + name + "\\(.*") ? 1 : 0, 0);
        }
        Set<String> constants = new TreeSet<>();
        for (Field field : NibLetters.class.getDeclaredFields()) {
            if (isPublic(field)) {
                constants.add(field.getName() + "=" + field.getInt(null));
            } else {
                checks.due(field + " is private", Modifier.isPrivate(field.getModifiers()) ? 1 : 0, 1);
            }
            checkStatic(field);
        }
        checks.due("the constants", String.join(" ", constants), CONSTANTS);
        Constructor<?>[] constructors = NibLetters.class.getDeclaredConstructors();
        checks.due("constructors", constructors.length, 1);
        checks.due("the constructor's parameters", constructors[0].getParameterCount(), 0);
        checks.due("the class is public and final", NibLetters.class.getModifiers(), Modifier.PUBLIC | Modifier.FINAL);
    }

    private static boolean isPublic(Member member) {
        return Modifier.isPublic(member.getModifiers());
    }

    private static void checkStatic(Field field) {
        if (Modifier.isStatic(field.getModifiers())) {
            checks.due(field + " is final", Modifier.isFinal(field.getModifiers()) ? 1 : 0, 1);
        }
    }

    private static void classesInside() {
        Class<?>[] inside = NibLetters.class.getDeclaredClasses();
        checks.due("at most twelve classes", inside.length < 12 ? 1 : 0, 1);
        for (Class<?> one : inside) {
            checks.due(one + " is static", Modifier.isStatic(one.getModifiers()) ? 1 : 0, 1);
            checks.due(one + " is not public", Modifier.isPublic(one.getModifiers()) ? 1 : 0, 0);
            Arrays.stream(one.getDeclaredFields()).forEach(FaceTest::checkStatic);
            fewFields(one);
            for (Method method : one.getDeclaredMethods()) {
                checks.due(method + " takes at most seven", method.getParameterCount() <= 7 ? 1 : 0, 1);
                checks.due(method + " bears no public name", METHODS.matches("(.* )?" + method.getName() + "\\(.*") ? 1 : 0, 0);
            }
        }
        fewFields(NibLetters.class);
    }

    private static void fewFields(Class<?> one) {
        long fields = Arrays.stream(one.getDeclaredFields()).filter(field -> !Modifier.isStatic(field.getModifiers())).count();
        checks.due(one + " has at most twenty fields", fields <= 20 ? 1 : 0, 1);
    }

    private static void source(String text) {
        String code = text.replaceAll("(?s)/\\*.*?\\*/", "").replaceAll("//[^\n]*", "");
        for (String word : BANNED) {
            String edge = Character.isLetter(word.charAt(0)) ? "\\b" : "";
            boolean found = Pattern.compile(edge + Pattern.quote(word) + edge).matcher(code).find();
            checks.due("the source has " + word, found ? 1 : 0, 0);
        }
        Matcher imports = Pattern.compile("import ([^;]*);").matcher(code);
        while (imports.find()) {
            checks.due("import of " + imports.group(1), imports.group(1).matches("java\\.util\\.(Arrays|ArrayList|List)") ? 1 : 0, 1);
        }
        int begun = 0;
        String[] lines = code.split("\n");
        for (int i = 0; i < lines.length; i++) {
            if (lines[i].matches(" {4}( {4})?[^ }].*\\{")) {
                begun = i;
            } else if (lines[i].matches(" {4}( {4})?\\}") && !lines[begun].contains("class ")) {
                checks.due(lines[begun].trim() + " is short", i - begun <= 60 ? 1 : 0, 1);
            }
        }
    }
}
