import com.sun.management.ThreadMXBean;
import java.lang.management.ManagementFactory;
import java.lang.reflect.Array;
import java.lang.reflect.Field;
import java.lang.reflect.Method;
import java.lang.reflect.Modifier;
import java.util.ArrayList;
import java.util.Collections;
import java.util.HashSet;
import java.util.IdentityHashMap;
import java.util.List;
import java.util.Set;

/** What can be looked up of the rules of LANGUAGE.md in the class and its objects. */
public final class LanguageTest extends CallTest {
    public static void main(String[] args) {
        noPrivateMethodBearsTheNameOfAPublicOne();
        classesInsideArePrivateAndStatic();
        staticFieldsAreFinal();
        nothingIsTooLarge();
        whatIsKeptDoesNotGrow();
        callsMakeNoObjects();
        end("the rules that can be looked up are kept");
    }

    private static List<Class<?>> classes() {
        List<Class<?>> all = new ArrayList<>(List.of(JoinedLeaves.class.getDeclaredClasses()));
        all.add(JoinedLeaves.class);
        return all;
    }

    private static void noPrivateMethodBearsTheNameOfAPublicOne() {
        Set<String> names = new HashSet<>();
        for (Method method : JoinedLeaves.class.getDeclaredMethods()) {
            if (Modifier.isPublic(method.getModifiers())) {
                names.add(method.getName());
            }
        }
        for (Class<?> one : classes()) {
            for (Method method : one.getDeclaredMethods()) {
                boolean isPrivate = Modifier.isPrivate(method.getModifiers());
                due("the name of " + method, false, () -> isPrivate && names.contains(method.getName()));
            }
        }
    }

    private static void classesInsideArePrivateAndStatic() {
        for (Class<?> one : JoinedLeaves.class.getDeclaredClasses()) {
            due(one + " is static", true, () -> Modifier.isStatic(one.getModifiers()));
            due(one + " is private", true, () -> Modifier.isPrivate(one.getModifiers()));
        }
    }

    private static void staticFieldsAreFinal() {
        for (Class<?> one : classes()) {
            for (Field field : one.getDeclaredFields()) {
                boolean isStatic = Modifier.isStatic(field.getModifiers());
                due(field + " is final", true, () -> !isStatic || Modifier.isFinal(field.getModifiers()));
            }
        }
    }

    private static void nothingIsTooLarge() {
        due("at most twelve classes", true, () -> classes().size() <= 12);
        for (Class<?> one : classes()) {
            long fields = 0;
            for (Field field : one.getDeclaredFields()) {
                fields += Modifier.isStatic(field.getModifiers()) ? 0 : 1;
            }
            boolean isFew = fields <= 20;
            due("at most twenty fields in " + one, true, () -> isFew);
            for (Method method : one.getDeclaredMethods()) {
                due("at most seven parameters of " + method, true, () -> method.getParameterCount() <= 7);
            }
        }
    }

    /** All calls of a run share one room: what an object keeps is made once, by its constructor. */
    private static void whatIsKeptDoesNotGrow() {
        JoinedLeaves x = new JoinedLeaves();
        int before = placesOf(x);
        due("few places are kept", true, () -> before < 1000);
        callAll(x);
        due("places kept after many calls", before, () -> placesOf(x));
    }

    /** The first round lets the machine load what it needs; the second one is measured. */
    private static void callsMakeNoObjects() {
        ThreadMXBean thread = (ThreadMXBean) ManagementFactory.getThreadMXBean();
        long made = 0;
        for (int round = 0; round < 2; round++) {
            JoinedLeaves x = new JoinedLeaves();
            long before = thread.getCurrentThreadAllocatedBytes();
            callAll(x);
            made = thread.getCurrentThreadAllocatedBytes() - before;
        }
        long bytes = made;
        // Were each call of one kind to make but one object, its bytes would be more than these.
        due("bytes made by some 300 calls", true, () -> bytes < 96);
    }

    /** Makes some 300 calls, of every kind, none of which throws. */
    private static void callAll(JoinedLeaves x) {
        for (int i = 0; i < 6; i++) {
            x.relation(i % 3 + 1);
            for (int value = 0; value < 12; value++) {
                x.add(i, value, value + 1, value + 2);
            }
            x.drop(i, 0, 1, 2);
            x.rows(i);
        }
        for (int question = 0; question < 6; question++) {
            askAll(x);
            x.clear();
        }
    }

    private static void askAll(JoinedLeaves x) {
        for (int i = 0; i < 6; i++) {
            x.atom(i, i, i + 1, i + 2);
            x.parent(i);
            x.turn(i);
            x.live(i);
        }
        for (int i = 0; i < 4; i++) {
            x.head(2 * i + 1);
            x.answer(0, i);
        }
        x.tree();
        x.ways();
        x.answers();
    }

    /** The fields and elements of an object and of all that it refers to. */
    private static int placesOf(JoinedLeaves x) {
        Set<Object> reached = Collections.newSetFromMap(new IdentityHashMap<>());
        List<Object> open = new ArrayList<>(List.of(x));
        int places = 0;
        while (!open.isEmpty()) {
            Object one = open.remove(open.size() - 1);
            if (reached.add(one)) {
                places += one.getClass().isArray() ? openElements(one, open) : openFields(one, open);
            }
        }
        return places;
    }

    private static int openElements(Object array, List<Object> open) {
        int length = Array.getLength(array);
        for (int i = 0; i < length && !array.getClass().getComponentType().isPrimitive(); i++) {
            open.add(Array.get(array, i));
        }
        return length;
    }

    private static int openFields(Object one, List<Object> open) {
        int places = 0;
        for (Field field : one.getClass().getDeclaredFields()) {
            if (!Modifier.isStatic(field.getModifiers())) {
                places++;
                openField(one, field, open);
            }
        }
        return places;
    }

    private static void openField(Object one, Field field, List<Object> open) {
        try {
            field.setAccessible(true);
            if (!field.getType().isPrimitive()) {
                open.add(field.get(one));
            }
        } catch (IllegalAccessException e) {
            throw new AssertionError(e);
        }
    }
}
