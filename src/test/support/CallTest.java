import java.util.function.Supplier;

/** What the tests by hand have in common: calls, each with the answer that is due. */
abstract class CallTest {
    static final int LOW = Integer.MIN_VALUE;
    static final int HIGH = Integer.MAX_VALUE;
    static final String ISE = "throws.IllegalStateException";
    static final String IAE = "throws.IllegalArgumentException";
    static final String UOE = "throws.UnsupportedOperationException";
    static final String IOOBE = "throws.IndexOutOfBoundsException";

    private static int wrong = 0;

    static void due(String call, Object want, Supplier<Object> asked) {
        String got = outcome(asked);
        if (!got.equals(String.valueOf(want))) {
            wrong++;
            System.out.println(call + " answered " + got + ", due is " + want);
        }
    }

    /** The answer as a text, or the name of the exception behind throws. */
    static String outcome(Supplier<Object> call) {
        try {
            return String.valueOf(call.get());
        } catch (RuntimeException e) {
            return "throws." + e.getClass().getSimpleName();
        }
    }

    static void end(String whenAllIsDue) {
        System.out.println(wrong == 0 ? whenAllIsDue : wrong + " answers are not as due");
        if (wrong != 0) {
            System.exit(1);
        }
    }

    /** An object with relations of these widths. */
    static JoinedLeaves withRelations(int... widths) {
        JoinedLeaves x = new JoinedLeaves();
        for (int width : widths) {
            x.relation(width);
        }
        return x;
    }

    /** A ring of three atoms, made by four calls: no tree. */
    static JoinedLeaves ring() {
        JoinedLeaves x = withRelations(2);
        x.atom(0, 0, 1, 0);
        x.atom(0, 1, 2, 0);
        x.atom(0, 2, 0, 0);
        return x;
    }

    /** Adds rows, each given as three values. */
    static void fill(JoinedLeaves x, int relation, int... values) {
        for (int i = 0; i < values.length; i += 3) {
            int a = values[i];
            int b = values[i + 1];
            int c = values[i + 2];
            due("add in fill", true, () -> x.add(relation, a, b, c));
        }
    }

    /** Adds the rows (0, 1, 2), (1, 2, 3) and so on, or as much of them as the relation is wide. */
    static void count(JoinedLeaves x, int relation, int count) {
        for (int i = 0; i < count; i++) {
            fill(x, relation, i, i + 1, i + 2);
        }
    }

    static void heads(JoinedLeaves x, int... variables) {
        for (int variable : variables) {
            x.head(variable);
        }
    }

    /** Looks at all answers, each of them told as its values without a gap, in hexadecimal. */
    static void dueAnswers(String name, JoinedLeaves x, int length, String... want) {
        due(name + ": answers()", want.length, x::answers);
        for (int k = 0; k < want.length; k++) {
            for (int i = 0; i < length; i++) {
                int place = k;
                int value = i;
                int digit = Character.digit(want[k].charAt(i), 16);
                due(name + ": answer(" + k + ", " + i + ")", digit, () -> x.answer(place, value));
            }
        }
    }

    /** Looks at the parents and turns of the atoms from 0 on. */
    static void dueHanging(String name, JoinedLeaves x, boolean tree, int[] parents, int[] turns) {
        due(name + ": tree()", tree, x::tree);
        for (int i = 0; i < parents.length; i++) {
            int atom = i;
            due(name + ": parent(" + i + ")", parents[i], () -> x.parent(atom));
            due(name + ": turn(" + i + ")", turns[i], () -> x.turn(atom));
        }
    }
}
