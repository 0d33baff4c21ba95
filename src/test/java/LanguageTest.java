import java.io.IOException;
import java.lang.reflect.Array;
import java.lang.reflect.Field;
import java.lang.reflect.Method;
import java.lang.reflect.Modifier;
import java.nio.file.Files;
import java.nio.file.Path;
import java.util.ArrayList;
import java.util.Collections;
import java.util.HashSet;
import java.util.IdentityHashMap;
import java.util.List;
import java.util.Set;
import java.util.regex.Matcher;
import java.util.regex.Pattern;

/** What can be looked up of the rules of LANGUAGE.md, in the class and in its source. */
public final class LanguageTest extends CallTest {
    private static final Path SOURCE = Path.of("src/main/java/JoinedLeaves.java");
    private static final Pattern RULED_OUT = Pattern.compile("->|::"
            + "|\\b(try|catch|finally|synchronized|assert|import|package|protected|System|Thread|Runtime|Object"
            + "|toString|hashCode|equals|getClass|float|double)\\b");
    private static final Pattern THROWN = Pattern.compile("throw (?!new (IllegalStateException"
            + "|IllegalArgumentException|IndexOutOfBoundsException|UnsupportedOperationException)"
            + "\\((\"[^\"]*\")?\\);)");

    public static void main(String[] args) throws IOException {
        noPrivateMethodBearsTheNameOfAPublicOne();
        classesInsideArePrivateAndStatic();
        staticFieldsAreFinal();
        nothingIsTooLarge();
        String code = withoutComments(Files.readString(SOURCE));
        due("what is ruled out", new ArrayList<>(), () -> foundIn(code, RULED_OUT));
        due("throws of another form", new ArrayList<>(), () -> foundIn(code, THROWN));
        whatIsKeptDoesNotGrow();
        end("the rules that can be looked up are kept");
    }

    private static List<Class<?>> classes() {
        List<Class<?>> all = new ArrayList<>(List.of(JoinedLeaves.class.getDeclaredClasses()));
        all.add(JoinedLeaves.class);
        return all;
    }

    private static void noPrivateMethodBearsTheNameOfAPublicOne() {
        Set<String> names = new HashSet<>();
        for (Method method : JoinedLeaves.class.getDeclaredMethods()) {
            if (Modifier.isPublic(method.getModifiers())) {
                names.add(method.getName());
            }
        }
        for (Class<?> one : classes()) {
            for (Method method : one.getDeclaredMethods()) {
                boolean isPrivate = Modifier.isPrivate(method.getModifiers());
                due("the name of " + method, false, () -> isPrivate && names.contains(method.getName()));
            }
        }
    }

    private static void classesInsideArePrivateAndStatic() {
        for (Class<?> one : JoinedLeaves.class.getDeclaredClasses()) {
            due(one + " is static", true, () -> Modifier.isStatic(one.getModifiers()));
            due(one + " is private", true, () -> Modifier.isPrivate(one.getModifiers()));
        }
    }

    private static void staticFieldsAreFinal() {
        for (Class<?> one : classes()) {
            for (Field field : one.getDeclaredFields()) {
                boolean isStatic = Modifier.isStatic(field.getModifiers());
                due(field + " is final", true, () -> !isStatic || Modifier.isFinal(field.getModifiers()));
            }
        }
    }

    private static void nothingIsTooLarge() {
        due("at most twelve classes", true, () -> classes().size() <= 12);
        for (Class<?> one : classes()) {
            long fields = 0;
            for (Field field : one.getDeclaredFields()) {
                fields += Modifier.isStatic(field.getModifiers()) ? 0 : 1;
            }
            boolean isFew = fields <= 20;
            due("at most twenty fields in " + one, true, () -> isFew);
            for (Method method : one.getDeclaredMethods()) {
                due("at most seven parameters of " + method, true, () -> method.getParameterCount() <= 7);
            }
        }
    }

    private static String withoutComments(String source) {
        return source.replaceAll("(?s)/\\*.*?\\*/", "").replaceAll("//[^\n]*", "");
    }

    private static List<String> foundIn(String code, Pattern pattern) {
        List<String> found = new ArrayList<>();
        Matcher matcher = pattern.matcher(code);
        while (matcher.find()) {
            int end = code.indexOf('\n', matcher.start());
            found.add(code.substring(matcher.start(), end));
        }
        return found;
    }

    /** All calls of a run share one room: what an object keeps is made once, by its constructor. */
    private static void whatIsKeptDoesNotGrow() {
        JoinedLeaves x = new JoinedLeaves();
        int before = placesOf(x);
        due("few places are kept", true, () -> before < 1000);
        for (int i = 0; i < 6; i++) {
            x.relation(i % 3 + 1);
            count(x, i, 12);
            x.atom(i, i, i + 1, i + 1);
        }
        heads(x, 0, 1, 2, 3);
        for (int i = 0; i < 200; i++) {
            outcome(x::answers);
            outcome(x::ways);
        }
        due("places kept after many calls", before, () -> placesOf(x));
    }

    /** The fields and elements of an object and of all that it refers to. */
    private static int placesOf(JoinedLeaves x) {
        Set<Object> reached = Collections.newSetFromMap(new IdentityHashMap<>());
        List<Object> open = new ArrayList<>(List.of(x));
        int places = 0;
        while (!open.isEmpty()) {
            Object one = open.remove(open.size() - 1);
            if (reached.add(one)) {
                places += one.getClass().isArray() ? openElements(one, open) : openFields(one, open);
            }
        }
        return places;
    }

    private static int openElements(Object array, List<Object> open) {
        int length = Array.getLength(array);
        for (int i = 0; i < length && !array.getClass().getComponentType().isPrimitive(); i++) {
            open.add(Array.get(array, i));
        }
        return length;
    }

    private static int openFields(Object one, List<Object> open) {
        int places = 0;
        for (Field field : one.getClass().getDeclaredFields()) {
            if (!Modifier.isStatic(field.getModifiers())) {
                places++;
                openField(one, field, open);
            }
        }
        return places;
    }

    private static void openField(Object one, Field field, List<Object> open) {
        try {
            field.setAccessible(true);
            if (!field.getType().isPrimitive()) {
                open.add(field.get(one));
            }
        } catch (IllegalAccessException e) {
            throw new AssertionError(e);
        }
    }
}
