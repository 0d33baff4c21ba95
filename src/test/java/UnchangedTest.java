import java.util.ArrayList;
import java.util.List;
import java.util.function.Function;
import java.util.function.Supplier;

/**
 * "A call that throws, or is refused, changes nothing": each such call is made on one of two
 * objects with the same calls behind them, and then all that can be seen of both is compared.
 */
public final class UnchangedTest extends CallTest {
    private static final int MOST_CALLS = 512;
    private static final int[] FAR = {LOW, HIGH};

    public static void main(String[] args) {
        lookingSeesEachChange();
        for (State state : State.values()) {
            refusedInAnyState(state);
            askedOfAnyState(state);
        }
        refusedByANewObject();
        refusedWhenSomethingIsThere();
        refusedWhenAllIsFull();
        thrownByAQuestion();
        thrownWhenTheQuestionIsNoTree();
        thrownWhenTheHeadIsUnbound();
        thrownWhenThereAreTooMany();
        end("refused and throwing calls change nothing");
    }

    /** What the objects hold before the call. */
    private enum State {
        NEW {
            @Override
            void make(Recorder x) {
                // nothing is made
            }
        },
        SOME {
            @Override
            void make(Recorder x) {
                x.relations(1, 2, 3);
                x.rows(0, 3);
                x.rows(1, 4);
                x.atom(1, 0, 1);
                x.atom(1, 1, 2);
                x.heads(2, 0);
            }
        },
        FULL {
            @Override
            void make(Recorder x) {
                x.relations(1, 2, 3, 1, 2, 3);
                for (int i = 0; i < 6; i++) {
                    x.rows(i, 12);
                }
                x.atom(0, 0);
                x.atom(1, 0, 1);
                x.atom(2, 1, 2, 3);
                x.atom(3, 3);
                x.atom(4, 3, 4);
                x.atom(5, 4, 5, 6);
                x.heads(6, 0, 3, 1);
            }
        },
        RING {
            @Override
            void make(Recorder x) {
                x.relations(2, 1);
                x.rows(0, 4);
                x.rows(1, 12);
                x.atom(0, 0, 1);
                x.atom(0, 1, 2);
                x.atom(0, 2, 0);
                x.atom(1, 3);
                x.heads(0, 3);
            }
        },
        UNBOUND {
            @Override
            void make(Recorder x) {
                x.relations(2);
                x.rows(0, 4);
                x.atom(0, 0, 1);
                x.heads(1, 7);
            }
        },
        TOO_MANY {
            @Override
            void make(Recorder x) {
                x.relations(1, 1);
                x.rows(0, 6);
                x.rows(1, 11);
                x.atom(0, 0);
                x.atom(1, 1);
                x.heads(1, 0);
            }
        };

        abstract void make(Recorder x);
    }

    /** An object, with its calls counted and their answers written down. */
    private static final class Recorder {
        private final JoinedLeaves object = new JoinedLeaves();
        private final List<String> seen = new ArrayList<>();
        private int calls = 0;

        private String call(String name, Function<JoinedLeaves, Object> call) {
            String answer = outcome(() -> call.apply(object));
            seen.add(name + " " + answer);
            calls++;
            return answer;
        }

        void relations(int... widths) {
            for (int width : widths) {
                call("relation", x -> x.relation(width));
            }
        }

        void rows(int relation, int count) {
            for (int i = 0; i < count; i++) {
                int value = i;
                call("add", x -> x.add(relation, value, value + 1, value + 2));
            }
        }

        void atom(int relation, int... variables) {
            int a = variables[0];
            int b = variables.length > 1 ? variables[1] : 0;
            int c = variables.length > 2 ? variables[2] : 0;
            call("atom", x -> x.atom(relation, a, b, c));
        }

        void heads(int... variables) {
            for (int variable : variables) {
                call("head", x -> x.head(variable));
            }
        }

        /** Asks for all that the object holds; it asks other questions too, so it comes last. */
        List<String> lookAtAll() {
            seen.clear();
            lookAtTheQuestion();
            for (int variable = 0; variable < 8; variable++) {
                heads(variable);
            }
            call("clear", JoinedLeaves::clear);
            for (int i = 0; i < 6; i++) {
                lookAtRelation(i);
            }
            call("relation", x -> x.relation(1));
            if (calls > MOST_CALLS) {
                throw new AssertionError("too many calls: " + calls);
            }
            return seen;
        }

        private void lookAtTheQuestion() {
            call("tree", JoinedLeaves::tree);
            call("ways", JoinedLeaves::ways);
            for (int i = 0; i < 6; i++) {
                int number = i;
                call("rows " + i, x -> x.rows(number));
                call("parent " + i, x -> x.parent(number));
                call("turn " + i, x -> x.turn(number));
                call("live " + i, x -> x.live(number));
            }
            lookAtAnswers(4);
        }

        private void lookAtAnswers(int length) {
            String count = call("answers", JoinedLeaves::answers);
            if (count.startsWith("throws")) {
                return;
            }
            for (int k = 0; k < Math.min(12, Integer.parseInt(count)); k++) {
                for (int i = 0; i < length; i++) {
                    int answer = k;
                    int value = i;
                    call("answer " + k + " " + i, x -> x.answer(answer, value));
                }
            }
        }

        private void lookAtRelation(int relation) {
            int width = 0;
            for (int tried = 1; tried <= 3 && width == 0; tried++) {
                int second = tried > 1 ? 1 : -1;
                int third = tried > 2 ? 2 : -1;
                String number = call("atom of " + relation, x -> x.atom(relation, 0, second, third));
                width = number.equals("0") ? tried : 0;
            }
            for (int variable = 0; variable < width; variable++) {
                heads(variable);
            }
            lookAtAnswers(width);
            call("clear", JoinedLeaves::clear);
        }
    }

    private static List<String> seenAfter(State state, String name, Object want, Function<JoinedLeaves, Object> call) {
        Recorder recorder = new Recorder();
        state.make(recorder);
        due(state + ": " + name, want, () -> recorder.call(name, call));
        return recorder.lookAtAll();
    }

    private static List<String> seenOf(State state) {
        Recorder recorder = new Recorder();
        state.make(recorder);
        return recorder.lookAtAll();
    }

    /** The call is due to answer this, and to change nothing. */
    private static void unchanged(State state, String name, Object want, Function<JoinedLeaves, Object> call) {
        List<String> after = seenAfter(state, name, want, call);
        List<String> before = seenOf(state);
        due(state + ": what is seen after " + name, before, () -> after);
    }

    /** The call is due to answer this, and to change something: else looking would be blind. */
    private static void changed(State state, String name, Object want, Function<JoinedLeaves, Object> call) {
        List<String> after = seenAfter(state, name, want, call);
        List<String> before = seenOf(state);
        due(state + ": a change is seen after " + name, false, () -> before.equals(after));
    }

    private static void lookingSeesEachChange() {
        changed(State.NEW, "relation(1)", 0, x -> x.relation(1));
        changed(State.NEW, "head(7)", 0, x -> x.head(7));
        changed(State.SOME, "relation(3)", 3, x -> x.relation(3));
        changed(State.SOME, "add(0, 15)", true, x -> x.add(0, 15, 0, 0));
        changed(State.SOME, "add(2, 15, 0, 15)", true, x -> x.add(2, 15, 0, 15));
        changed(State.SOME, "drop(0, 0)", true, x -> x.drop(0, 0, 0, 0));
        changed(State.SOME, "atom(0, 7)", 2, x -> x.atom(0, 7, 0, 0));
        changed(State.SOME, "head(1)", 2, x -> x.head(1));
        changed(State.SOME, "clear()", 2, JoinedLeaves::clear);
        changed(State.FULL, "drop(5, 11)", true, x -> x.drop(5, 11, 12, 13));
        changed(State.FULL, "clear()", 6, JoinedLeaves::clear);
        changed(State.RING, "atom(0, 0, 1)", 4, x -> x.atom(0, 0, 1, 0));
        changed(State.UNBOUND, "head(0)", 2, x -> x.head(0));
        changed(State.TOO_MANY, "drop(1, 10)", true, x -> x.drop(1, 10, 0, 0));
    }

    private static void refusedInAnyState(State state) {
        for (int width : new int[] {-1, 0, 4, LOW, HIGH}) {
            unchanged(state, "relation(" + width + ")", -1, x -> x.relation(width));
        }
        for (int none : new int[] {-1, 6, LOW, HIGH}) {
            unchanged(state, "add to " + none, false, x -> x.add(none, 0, 1, 2));
            unchanged(state, "drop from " + none, false, x -> x.drop(none, 0, 1, 2));
            unchanged(state, "rows(" + none + ")", -1, x -> x.rows(none));
            unchanged(state, "atom of " + none, -1, x -> x.atom(none, 0, 1, 2));
            unchanged(state, "parent(" + none + ")", -1, x -> x.parent(none));
            unchanged(state, "turn(" + none + ")", -1, x -> x.turn(none));
        }
        for (int variable : new int[] {-1, 8, LOW, HIGH}) {
            unchanged(state, "head(" + variable + ")", -1, x -> x.head(variable));
        }
    }

    /** Calls that only ask change nothing either, whatever they answer. */
    private static void askedOfAnyState(State state) {
        List<Function<JoinedLeaves, Object>> asking = List.of(x -> x.rows(0), JoinedLeaves::tree, x -> x.parent(0),
                x -> x.turn(0), JoinedLeaves::ways, x -> x.live(0), JoinedLeaves::answers, x -> x.answer(0, 0));
        for (int i = 0; i < asking.size(); i++) {
            Function<JoinedLeaves, Object> call = asking.get(i);
            Recorder recorder = new Recorder();
            state.make(recorder);
            String answer = recorder.call("asked", call);
            unchanged(state, "asking call " + i, answer, call);
        }
    }

    private static void refusedByANewObject() {
        unchanged(State.NEW, "add to 0", false, x -> x.add(0, 0, 0, 0));
        unchanged(State.NEW, "drop from 0", false, x -> x.drop(0, 0, 0, 0));
        unchanged(State.NEW, "rows(0)", -1, x -> x.rows(0));
        unchanged(State.NEW, "atom of 0", -1, x -> x.atom(0, 0, 0, 0));
        unchanged(State.NEW, "clear()", 0, JoinedLeaves::clear);
        unchanged(State.NEW, "live(0)", IOOBE, x -> x.live(0));
        unchanged(State.NEW, "answer(0, 0)", IOOBE, x -> x.answer(0, 0));
    }

    private static void refusedWhenSomethingIsThere() {
        State state = State.SOME;
        unchanged(state, "add to 3", false, x -> x.add(3, 0, 0, 0));
        unchanged(state, "drop from 3", false, x -> x.drop(3, 0, 0, 0));
        unchanged(state, "atom of 3", -1, x -> x.atom(3, 0, 1, 2));
        for (int value : new int[] {-1, 16, LOW, HIGH}) {
            for (int i = 0; i < 3; i++) {
                int relation = i;
                unchanged(state, "add a " + value, false, x -> x.add(relation, value, 1, 2));
                unchanged(state, "drop a " + value, false, x -> x.drop(relation, value, 1, 2));
            }
            for (int i = 1; i < 3; i++) {
                int relation = i;
                unchanged(state, "add b " + value, false, x -> x.add(relation, 0, value, 2));
                unchanged(state, "drop b " + value, false, x -> x.drop(relation, 0, value, 2));
            }
            unchanged(state, "add c " + value, false, x -> x.add(2, 0, 1, value));
            unchanged(state, "drop c " + value, false, x -> x.drop(2, 0, 1, value));
        }
        unchanged(state, "add a row that it has", false, x -> x.add(1, 3, 4, 0));
        unchanged(state, "drop a row that it has not", false, x -> x.drop(1, 4, 3, 0));
        unchanged(state, "drop from an empty one", false, x -> x.drop(2, 0, 1, 2));
        for (int variable : new int[] {-1, 8, LOW, HIGH}) {
            for (int i = 0; i < 3; i++) {
                int relation = i;
                unchanged(state, "atom x " + variable, -1, x -> x.atom(relation, variable, 1, 2));
            }
            unchanged(state, "atom y " + variable, -1, x -> x.atom(1, 0, variable, 2));
            unchanged(state, "atom y " + variable, -1, x -> x.atom(2, 0, variable, 2));
            unchanged(state, "atom z " + variable, -1, x -> x.atom(2, 0, 1, variable));
        }
        unchanged(state, "head(0) again", -1, x -> x.head(0));
        unchanged(state, "head(2) again", -1, x -> x.head(2));
        unchanged(state, "parent of none", -1, x -> x.parent(2));
        unchanged(state, "turn of none", -1, x -> x.turn(2));
    }

    private static void refusedWhenAllIsFull() {
        State state = State.FULL;
        for (int i = 1; i <= 3; i++) {
            int width = i;
            unchanged(state, "relation(" + i + ")", -1, x -> x.relation(width));
        }
        for (int i = 0; i < 6; i++) {
            int relation = i;
            unchanged(state, "a new row to " + i, false, x -> x.add(relation, 15, 15, 15));
            unchanged(state, "a row that it has to " + i, false, x -> x.add(relation, 0, 1, 2));
            unchanged(state, "no such row from " + i, false, x -> x.drop(relation, 15, 15, 15));
            unchanged(state, "atom of " + i, -1, x -> x.atom(relation, 7, 7, 7));
        }
        for (int i = 0; i < 8; i++) {
            int variable = i;
            unchanged(state, "head(" + i + ")", -1, x -> x.head(variable));
        }
    }

    private static void thrownByAQuestion() {
        for (int none : new int[] {-1, 2, 6, LOW, HIGH}) {
            unchanged(State.SOME, "live(" + none + ")", IOOBE, x -> x.live(none));
        }
        for (int none : new int[] {-1, 3, 64, LOW, HIGH}) {
            unchanged(State.SOME, "answer(" + none + ", 0)", IOOBE, x -> x.answer(none, 0));
        }
        for (int none : new int[] {-1, 2, 4, LOW, HIGH}) {
            unchanged(State.SOME, "answer(0, " + none + ")", IOOBE, x -> x.answer(0, none));
        }
        for (int none : new int[] {-1, 6, LOW, HIGH}) {
            unchanged(State.FULL, "live(" + none + ")", IOOBE, x -> x.live(none));
        }
        unchanged(State.FULL, "answer(8, 0)", IOOBE, x -> x.answer(8, 0));
        unchanged(State.FULL, "answer(7, 4)", IOOBE, x -> x.answer(7, 4));
    }

    private static void thrownWhenTheQuestionIsNoTree() {
        unchanged(State.RING, "ways()", ISE, JoinedLeaves::ways);
        for (int atom : new int[] {0, 3, 4, -1, LOW, HIGH}) {
            unchanged(State.RING, "live(" + atom + ")", ISE, x -> x.live(atom));
        }
        thrownByAnswers(State.RING, ISE);
    }

    private static void thrownWhenTheHeadIsUnbound() {
        thrownByAnswers(State.UNBOUND, IAE);
    }

    private static void thrownWhenThereAreTooMany() {
        thrownByAnswers(State.TOO_MANY, UOE);
        // What the search for too many answers leaves behind must not be taken for answers.
        Recorder recorder = new Recorder();
        State.TOO_MANY.make(recorder);
        Supplier<Object> count = () -> recorder.object.answers();
        due("66 answers", UOE, count);
        recorder.object.drop(1, 10, 0, 0);
        due("60 answers", 60, count);
        due("the last of 60", 9, () -> recorder.object.answer(59, 0));
        due("behind the last of 60", IOOBE, () -> recorder.object.answer(60, 0));
    }

    private static void thrownByAnswers(State state, String want) {
        unchanged(state, "answers()", want, JoinedLeaves::answers);
        unchanged(state, "answer(0, 0)", want, x -> x.answer(0, 0));
        unchanged(state, "answer(63, 1)", want, x -> x.answer(63, 1));
        for (int far : FAR) {
            unchanged(state, "answer(" + far + ", 0)", want, x -> x.answer(far, 0));
            unchanged(state, "answer(0, " + far + ")", want, x -> x.answer(0, far));
        }
    }
}
