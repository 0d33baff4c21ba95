import java.lang.reflect.Constructor;
import java.lang.reflect.Field;
import java.lang.reflect.Member;
import java.lang.reflect.Method;
import java.lang.reflect.Modifier;
import java.util.Arrays;
import java.util.Set;
import java.util.TreeSet;

/** The class shows the face of the document, and nothing else. */
public final class FaceTest {
    private static final Set<String> FACE = new TreeSet<>(Arrays.asList(
            "public static final int JoinedLeaves.NONE",
            "public JoinedLeaves()",
            "public int JoinedLeaves.relation(int)",
            "public boolean JoinedLeaves.add(int,int,int,int)",
            "public boolean JoinedLeaves.drop(int,int,int,int)",
            "public int JoinedLeaves.rows(int)",
            "public int JoinedLeaves.atom(int,int,int,int)",
            "public int JoinedLeaves.head(int)",
            "public int JoinedLeaves.clear()",
            "public boolean JoinedLeaves.tree()",
            "public int JoinedLeaves.parent(int)",
            "public int JoinedLeaves.turn(int)",
            "public long JoinedLeaves.ways() throws java.lang.IllegalStateException",
            "public int JoinedLeaves.live(int) throws java.lang.IllegalStateException,"
                    + "java.lang.IndexOutOfBoundsException",
            "public int JoinedLeaves.answers() throws java.lang.IllegalStateException,"
                    + "java.lang.IllegalArgumentException,java.lang.UnsupportedOperationException",
            "public int JoinedLeaves.answer(int,int) throws java.lang.IllegalStateException,"
                    + "java.lang.IllegalArgumentException,java.lang.UnsupportedOperationException,"
                    + "java.lang.IndexOutOfBoundsException"));

    public static void main(String[] args) {
        Set<String> shown = shownMembers();
        Set<String> lacking = new TreeSet<>(FACE);
        lacking.removeAll(shown);
        Set<String> beyond = new TreeSet<>(shown);
        beyond.removeAll(FACE);
        boolean isPublicAndFinal = JoinedLeaves.class.getModifiers() == (Modifier.PUBLIC | Modifier.FINAL);
        lacking.forEach(member -> System.out.println("lacking: " + member));
        beyond.forEach(member -> System.out.println("beyond the document: " + member));
        if (!lacking.isEmpty() || !beyond.isEmpty() || !isPublicAndFinal || JoinedLeaves.NONE != -1) {
            System.out.println("the face is not the document's");
            System.exit(1);
        }
        System.out.println("the face is the document's");
    }

    private static Set<String> shownMembers() {
        Set<String> shown = new TreeSet<>();
        for (Field field : JoinedLeaves.class.getDeclaredFields()) {
            addShown(shown, field, field.toString());
        }
        for (Constructor<?> constructor : JoinedLeaves.class.getDeclaredConstructors()) {
            addShown(shown, constructor, constructor.toString());
        }
        for (Method method : JoinedLeaves.class.getDeclaredMethods()) {
            addShown(shown, method, method.toString());
        }
        return shown;
    }

    private static void addShown(Set<String> shown, Member member, String text) {
        if (!Modifier.isPrivate(member.getModifiers())) {
            shown.add(text);
        }
    }
}
