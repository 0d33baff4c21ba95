import java.util.function.Supplier;

/** The boundary cases that the document names under 'What it is' and 'Terms', each by itself. */
public final class TermsEdgeTest extends CallTest {
    public static void main(String[] args) {
        call512AfterRefusedCalls();
        call512AfterRowsThatCameAndWent();
        call512AfterQuestionsThatCameAndWent();
        call512AfterThrows();
        relationsAre0To5AsTheyAreMade();
        widthsAre1To3();
        aRelationHasUpTo12Rows();
        theRowsAreASet();
        valuesAre0To15InEachColumn();
        valuesAre0To15InAnswers();
        valuesBeyondTheWidthAreNotLookedAt();
        aQuestionHasUpTo6Atoms();
        aHeadHasUpTo4Variables();
        theVariablesOfAHeadAreDifferent();
        variablesAre0To7InEachColumn();
        variablesAre0To7InTheHead();
        all8VariablesInOneQuestion();
        variablesBeyondTheWidthAreNotLookedAt();
        theSameVariableMoreThanOnce();
        theSameVariableMoreThanOnceIsShared();
        theSameVariableMoreThanOnceInAHungAtom();
        theSameVariableMoreThanOnceInTheRoot();
        withoutAtomsThereIsOneWay();
        eachRowIsOneAnswerHoweverManyWays();
        aRowIsLiveForOneAtomAndNotForAnother();
        oneAtomAloneIsNoEar();
        anAtomThatSharesNothingIsAnEar();
        variablesOfAtomsThatAreNotLeftDoNotCount();
        theLeastEarIsHungFirst();
        itIsHungOnTheLeastThatMakesItAnEar();
        itIsNotHungOnOneThatIsNotLeft();
        aTreeHasAtMostOneAtomLeft();
        threeAndMoreLeftAreNoTree();
        hangingGoesOnAsLongAsThereIsAnEar();
        theFirstNamedExceptionOfLive();
        theFirstNamedExceptionOfAnswersAndAnswer();
        end("all boundary cases of the terms are as due");
    }

    // "An object is used for at most 512 calls after it has been made"

    private static void call512AfterRefusedCalls() {
        JoinedLeaves x = new JoinedLeaves();
        for (int call = 1; call < 512; call++) {
            due("refused call " + call, -1, () -> x.relation(0));
        }
        due("call 512 after refused calls", 0, () -> x.relation(3));
    }

    private static void call512AfterRowsThatCameAndWent() {
        JoinedLeaves x = withRelations(1);
        for (int call = 2; call < 512; call += 2) {
            int value = call % 16;
            due("add, call " + call, true, () -> x.add(0, value, 0, 0));
            due("drop, call " + (call + 1), true, () -> x.drop(0, value, 0, 0));
        }
        due("call 512 after rows that came and went", 0, () -> x.rows(0));
    }

    private static void call512AfterQuestionsThatCameAndWent() {
        JoinedLeaves x = withRelations(1);
        x.add(0, 5, 0, 0);
        for (int call = 3; call < 511; call += 4) {
            int variable = call % 8;
            due("atom, call " + call, 0, () -> x.atom(0, variable, 0, 0));
            due("head, call " + (call + 1), 0, () -> x.head(variable));
            due("answer, call " + (call + 2), 5, () -> x.answer(0, 0));
            due("clear, call " + (call + 3), 1, x::clear);
        }
        due("call 511", 0, () -> x.atom(0, 7, 0, 0));
        due("call 512 after questions that came and went", 1L, x::ways);
    }

    private static void call512AfterThrows() {
        JoinedLeaves x = ring();
        for (int call = 5; call < 512; call++) {
            due("throwing call " + call, ISE, x::ways);
        }
        due("call 512 after throws", 3, x::clear);
    }

    // "RELATIONS are 0 .. 5, as they are made, each with a WIDTH from 1 to 3 and a set of up to
    // 12 ROWS of so many values, each 0 .. 15."

    private static void relationsAre0To5AsTheyAreMade() {
        JoinedLeaves x = new JoinedLeaves();
        for (int i = 0; i < 6; i++) {
            int number = i;
            due("not made yet: rows(" + i + ")", -1, () -> x.rows(number));
            due("not made yet: add to " + i, false, () -> x.add(number, 0, 0, 0));
            due("not made yet: drop from " + i, false, () -> x.drop(number, 0, 0, 0));
            due("not made yet: atom of " + i, -1, () -> x.atom(number, 0, 0, 0));
            due("a refused one takes no number", -1, () -> x.relation(0));
            due("relation " + i, i, () -> x.relation(1));
            due("made: rows(" + i + ")", 0, () -> x.rows(number));
            due("made: add to " + i, true, () -> x.add(number, 0, 0, 0));
            due("made: atom of " + i, i, () -> x.atom(number, 0, 0, 0));
            due("made: drop from " + i, true, () -> x.drop(number, 0, 0, 0));
        }
        due("relation 6", -1, () -> x.relation(1));
        x.clear();
        for (int none : new int[] {-1, 6, LOW, HIGH}) {
            due("rows(" + none + ")", -1, () -> x.rows(none));
            due("add to " + none, false, () -> x.add(none, 0, 0, 0));
            due("drop from " + none, false, () -> x.drop(none, 0, 0, 0));
            due("atom of " + none, -1, () -> x.atom(none, 0, 0, 0));
        }
    }

    private static void widthsAre1To3() {
        JoinedLeaves x = withRelations(1, 2, 3);
        due("width 1 takes one value", true, () -> x.add(0, 1, -1, -1));
        due("width 2 takes two, not one", false, () -> x.add(1, 1, -1, -1));
        due("width 2 takes two", true, () -> x.add(1, 1, 2, -1));
        due("width 3 takes three, not two", false, () -> x.add(2, 1, 2, -1));
        due("width 3 takes three", true, () -> x.add(2, 1, 2, 3));
        due("width 1 takes one variable", 0, () -> x.atom(0, 0, -1, -1));
        due("width 2 takes two variables, not one", -1, () -> x.atom(1, 0, -1, -1));
        due("width 2 takes two variables", 1, () -> x.atom(1, 0, 1, -1));
        due("width 3 takes three variables, not two", -1, () -> x.atom(2, 0, 1, -1));
        due("width 3 takes three variables", 2, () -> x.atom(2, 0, 1, 2));
        heads(x, 0, 1, 2);
        dueAnswers("a row of each width", x, 3, "123");
    }

    private static void aRelationHasUpTo12Rows() {
        for (int width = 1; width <= 3; width++) {
            JoinedLeaves x = withRelations(width);
            due("empty: rows(0)", 0, () -> x.rows(0));
            count(x, 0, 11);
            due("rows(0) before the last one", 11, () -> x.rows(0));
            due("row 12", true, () -> x.add(0, 11, 12, 13));
            due("row 13", false, () -> x.add(0, 12, 13, 14));
            due("full: rows(0)", 12, () -> x.rows(0));
            x.atom(0, 0, 1, 2);
            heads(x, 0);
            dueAnswers("all 12 rows", x, 1, "0", "1", "2", "3", "4", "5", "6", "7", "8", "9", "a", "b");
        }
    }

    private static void theRowsAreASet() {
        JoinedLeaves x = withRelations(3);
        fill(x, 0, 1, 2, 3, 9, 2, 3, 1, 9, 3, 1, 2, 9);
        due("the same row", false, () -> x.add(0, 1, 2, 3));
        due("rows that differ at one place", 4, () -> x.rows(0));
        x.atom(0, 0, 1, 2);
        due("a row gives one way", 4L, x::ways);
        due("a row is dropped once", true, () -> x.drop(0, 1, 2, 3));
        due("a row is dropped once", false, () -> x.drop(0, 1, 2, 3));
        due("the others stay", 3L, x::ways);
    }

    private static void valuesAre0To15InEachColumn() {
        for (int width = 1; width <= 3; width++) {
            for (int column = 0; column < width; column++) {
                JoinedLeaves x = withRelations(width);
                for (int value : new int[] {-1, 16, LOW, HIGH}) {
                    due(value + " in column " + column, false, addOf(x, value, column));
                    due("rows after " + value, 0, () -> x.rows(0));
                }
                for (int value : new int[] {0, 15}) {
                    due(value + " in column " + column, true, addOf(x, value, column));
                }
                due("rows after 0 and 15", 2, () -> x.rows(0));
            }
        }
    }

    private static Supplier<Object> addOf(JoinedLeaves x, int value, int column) {
        return () -> x.add(0, column == 0 ? value : 7, column == 1 ? value : 7, column == 2 ? value : 7);
    }

    private static void valuesAre0To15InAnswers() {
        JoinedLeaves x = withRelations(3);
        fill(x, 0, 0, 0, 0, 15, 15, 15, 0, 15, 0, 15, 0, 15, 0, 0, 15, 15, 15, 0);
        x.atom(0, 0, 1, 2);
        heads(x, 0, 1, 2);
        dueAnswers("least and greatest values", x, 3, "000", "00f", "0f0", "f0f", "ff0", "fff");
    }

    private static void valuesBeyondTheWidthAreNotLookedAt() {
        JoinedLeaves x = withRelations(1, 2);
        for (int beyond : new int[] {-1, 0, 15, 16, LOW, HIGH}) {
            due("width 1, beyond it " + beyond, true, () -> x.add(0, 3, beyond, beyond));
            due("width 1, the same row", false, () -> x.add(0, 3, 5, 6));
            due("width 1, beyond it " + beyond, true, () -> x.drop(0, 3, beyond, beyond));
            due("width 2, beyond it " + beyond, true, () -> x.add(1, 3, 4, beyond));
            due("width 2, the same row", false, () -> x.add(1, 3, 4, 5));
            due("width 2, beyond it " + beyond, true, () -> x.drop(1, 3, 4, beyond));
        }
    }

    // "A QUESTION has up to 6 ATOMS, 0 .. 5 in the order in which they were added, and a HEAD, a
    // row of up to 4 different variables; VARIABLES are 0 .. 7. An atom is a relation and a
    // variable for each of its columns (the same one may be there more than once)."

    private static void aQuestionHasUpTo6Atoms() {
        JoinedLeaves x = withRelations(1, 1);
        count(x, 0, 2);
        count(x, 1, 3);
        for (int i = 0; i < 5; i++) {
            int number = i;
            due("atom " + i, i, () -> x.atom(0, number, 0, 0));
        }
        due("ways of 5 atoms", 32L, x::ways);
        due("live(5) of 5 atoms", IOOBE, () -> x.live(5));
        due("atom 5", 5, () -> x.atom(1, 5, 0, 0));
        due("ways of 6 atoms", 96L, x::ways);
        due("live(5) of 6 atoms", 3, () -> x.live(5));
        due("live(0) of 6 atoms", 2, () -> x.live(0));
        due("atom 6", -1, () -> x.atom(1, 6, 0, 0));
        due("ways after a seventh atom", 96L, x::ways);
        due("live(6)", IOOBE, () -> x.live(6));
        due("clear()", 6, x::clear);
    }

    private static void aHeadHasUpTo4Variables() {
        JoinedLeaves x = withRelations(3);
        fill(x, 0, 1, 2, 3);
        x.atom(0, 0, 1, 2);
        x.atom(0, 3, 4, 5);
        for (int i = 0; i < 4; i++) {
            int place = i;
            due("answer(0, " + i + ") before", IOOBE, () -> x.answer(0, place));
            due("place " + i, i, () -> x.head(place));
            due("answer(0, " + i + ")", i % 3 + 1, () -> x.answer(0, place));
        }
        due("place 4", -1, () -> x.head(4));
        due("answer(0, 4)", IOOBE, () -> x.answer(0, 4));
        dueAnswers("a full head", x, 4, "1231");
    }

    private static void theVariablesOfAHeadAreDifferent() {
        JoinedLeaves x = new JoinedLeaves();
        for (int place = 0; place < 4; place++) {
            int variable = 7 - place;
            due("head(" + variable + ")", place, () -> x.head(variable));
            for (int before = 7; before >= variable; before--) {
                int same = before;
                due("head(" + before + ") again", -1, () -> x.head(same));
            }
        }
    }

    private static void variablesAre0To7InEachColumn() {
        for (int width = 1; width <= 3; width++) {
            for (int column = 0; column < width; column++) {
                JoinedLeaves x = withRelations(width);
                fill(x, 0, 9, 9, 9);
                for (int variable : new int[] {-1, 8, 32, LOW, HIGH}) {
                    due(variable + " in column " + column, -1, atomOf(x, variable, column));
                    due("live(0) after " + variable, IOOBE, () -> x.live(0));
                }
                due("0 in column " + column, 0, atomOf(x, 0, column));
                due("7 in column " + column, 1, atomOf(x, 7, column));
                heads(x, 0, 7);
                dueAnswers("least and greatest variable", x, 2, "99");
            }
        }
    }

    private static Supplier<Object> atomOf(JoinedLeaves x, int variable, int column) {
        return () -> x.atom(0, column == 0 ? variable : 3, column == 1 ? variable : 3, column == 2 ? variable : 3);
    }

    private static void variablesAre0To7InTheHead() {
        JoinedLeaves x = new JoinedLeaves();
        for (int variable : new int[] {-1, 8, 32, LOW, HIGH}) {
            due("head(" + variable + ")", -1, () -> x.head(variable));
        }
        due("head(0)", 0, () -> x.head(0));
        due("head(7)", 1, () -> x.head(7));
    }

    private static void all8VariablesInOneQuestion() {
        JoinedLeaves x = withRelations(2);
        count(x, 0, 4);
        for (int i = 0; i < 4; i++) {
            x.atom(0, 2 * i, 2 * i + 1, 0);
        }
        due("nothing shared", 256L, x::ways);
        x.atom(0, 1, 2, 0);
        x.atom(0, 5, 6, 0);
        due("two and two joined", 4L, x::ways);
        heads(x, 7, 0, 4, 3);
        dueAnswers("two and two joined", x, 4, "3003", "3104", "4013", "4114");
    }

    private static void variablesBeyondTheWidthAreNotLookedAt() {
        JoinedLeaves x = withRelations(1, 2);
        for (int beyond : new int[] {-1, 0, 7, 8, LOW, HIGH}) {
            due("width 1, beyond it " + beyond, 0, () -> x.atom(0, 3, beyond, beyond));
            due("width 2, beyond it " + beyond, 1, () -> x.atom(1, 3, 4, beyond));
            due("clear()", 2, x::clear);
        }
        fill(x, 0, 1, 2, 3);
        x.atom(0, 3, 4, 5);
        x.head(4);
        due("a variable beyond the width is in no atom", IAE, x::answers);
    }

    private static void theSameVariableMoreThanOnce() {
        JoinedLeaves x = withRelations(2, 3);
        fill(x, 0, 1, 2, 0, 2, 1, 0);
        fill(x, 1, 1, 1, 2, 1, 2, 1, 2, 1, 1, 3, 3, 4);
        int[][] atoms = {{0, 6, 6, 0}, {1, 6, 6, 6}, {1, 6, 6, 0}, {1, 6, 0, 6}, {1, 0, 6, 6}};
        int[] want = {0, 0, 2, 1, 1};
        for (int i = 0; i < atoms.length; i++) {
            int[] atom = atoms[i];
            x.clear();
            due("an atom with repeats", 0, () -> x.atom(atom[0], atom[1], atom[2], atom[3]));
            due("ways before a row fits all", (long) want[i], x::ways);
            due("live before a row fits all", want[i], () -> x.live(0));
        }
        fill(x, 0, 5, 5, 0);
        fill(x, 1, 5, 5, 5);
        for (int i = 0; i < atoms.length; i++) {
            int[] atom = atoms[i];
            x.clear();
            x.atom(atom[0], atom[1], atom[2], atom[3]);
            due("ways when a row fits all", want[i] + 1L, x::ways);
            due("live when a row fits all", want[i] + 1, () -> x.live(0));
            x.head(6);
            due("the greatest value", 5, () -> x.answer(x.answers() - 1, 0));
        }
    }

    private static void theSameVariableMoreThanOnceIsShared() {
        int[][] atoms = {{6, 6, 0}, {6, 0, 6}, {0, 6, 6}, {6, 6, 6}};
        for (int[] atom : atoms) {
            JoinedLeaves x = withRelations(3, 2);
            x.atom(0, atom[0], atom[1], atom[2]);
            x.atom(1, 1, 2, 0);
            x.atom(1, 6, 1, 0);
            // Were variable 6 not the atom's, the least other one would do.
            dueHanging("a repeated variable is shared", x, true,
                    new int[] {2, 2, -1}, new int[] {0, 1, -1});
        }
    }

    private static void theSameVariableMoreThanOnceInAHungAtom() {
        JoinedLeaves x = withRelations(3, 1);
        fill(x, 0, 4, 4, 5, 4, 5, 5, 5, 4, 5);
        fill(x, 1, 5, 0, 0);
        x.atom(0, 0, 0, 1);
        x.atom(1, 1, 0, 0);
        dueHanging("with repeats", x, true, new int[] {1, -1}, new int[] {0, -1});
        due("ways", 1L, x::ways);
        due("live(0)", 1, () -> x.live(0));
        x.drop(0, 4, 4, 5);
        due("ways without the row that fits", 0L, x::ways);
        due("live(1) without the row that fits", 0, () -> x.live(1));
    }

    private static void theSameVariableMoreThanOnceInTheRoot() {
        JoinedLeaves x = withRelations(2, 1);
        fill(x, 0, 1, 2, 0, 3, 3, 0, 4, 4, 0, 5, 3, 0);
        fill(x, 1, 3, 0, 0);
        x.atom(1, 0, 0, 0);
        x.atom(0, 0, 0, 0);
        dueHanging("with repeats", x, true, new int[] {1, -1}, new int[] {0, -1});
        due("ways beside rows that do not fit", 1L, x::ways);
        due("live(1) beside rows that do not fit", 1, () -> x.live(1));
        x.drop(0, 3, 3, 0);
        due("ways without the row that fits", 0L, x::ways);
        due("live(0) without the row that fits", 0, () -> x.live(0));
    }

    // "(Without atoms there is one way.) An ANSWER is a row [..]; each row is one answer, however
    // many ways give it. A row of an atom's relation is LIVE for the atom if some way makes the
    // atom that row."

    private static void withoutAtomsThereIsOneWay() {
        JoinedLeaves x = new JoinedLeaves();
        due("of a new object", 1L, x::ways);
        x.relation(1);
        due("beside an empty relation", 1L, x::ways);
        x.head(0);
        due("with a head", 1L, x::ways);
        x.atom(0, 0, 0, 0);
        due("with an atom", 0L, x::ways);
        x.clear();
        due("after clear()", 1L, x::ways);
    }

    private static void eachRowIsOneAnswerHoweverManyWays() {
        JoinedLeaves x = withRelations(1, 1);
        fill(x, 0, 3, 0, 0);
        count(x, 1, 12);
        x.atom(0, 0, 0, 0);
        for (int i = 1; i < 6; i++) {
            x.atom(1, i, 0, 0);
        }
        x.head(0);
        due("ways of one answer", 248832L, x::ways);
        dueAnswers("one answer of many ways", x, 1, "3");
    }

    private static void aRowIsLiveForOneAtomAndNotForAnother() {
        JoinedLeaves x = withRelations(2);
        fill(x, 0, 1, 2, 0, 2, 2, 0);
        x.atom(0, 0, 1, 0);
        x.atom(0, 1, 2, 0);
        due("both rows are live", 2, () -> x.live(0));
        due("one row is live", 1, () -> x.live(1));
    }

    // "An atom e that is left is an EAR if another one, w, is left, such that each variable of e
    // that is in some other atom that is left is in w. As long as there is an ear, the least ear e
    // is hung on the least w that makes it one, and is not left any more."

    private static void oneAtomAloneIsNoEar() {
        JoinedLeaves x = withRelations(3);
        x.atom(0, 0, 0, 1);
        dueHanging("one atom", x, true, new int[] {-1, -1}, new int[] {-1, -1});
    }

    private static void anAtomThatSharesNothingIsAnEar() {
        JoinedLeaves x = withRelations(1);
        for (int i = 0; i < 6; i++) {
            x.atom(0, i, 0, 0);
        }
        dueHanging("nothing shared", x, true,
                new int[] {1, 2, 3, 4, 5, -1}, new int[] {0, 1, 2, 3, 4, -1});
    }

    private static void variablesOfAtomsThatAreNotLeftDoNotCount() {
        JoinedLeaves x = withRelations(2);
        x.atom(0, 1, 2, 0);
        x.atom(0, 0, 1, 0);
        x.atom(0, 2, 3, 0);
        dueHanging("the middle first", x, true, new int[] {2, 0, -1}, new int[] {1, 0, -1});
    }

    private static void theLeastEarIsHungFirst() {
        JoinedLeaves x = withRelations(2, 3);
        x.atom(1, 0, 1, 2);
        x.atom(0, 2, 5, 0);
        x.atom(0, 1, 6, 0);
        x.atom(0, 0, 7, 0);
        dueHanging("three ears at first", x, true, new int[] {3, 0, 0, -1}, new int[] {2, 0, 1, -1});
    }

    private static void itIsHungOnTheLeastThatMakesItAnEar() {
        JoinedLeaves x = withRelations(1, 2, 3);
        x.atom(2, 0, 1, 2);
        x.atom(2, 3, 4, 5);
        x.atom(1, 0, 3, 0);
        x.atom(2, 2, 1, 7);
        x.atom(2, 7, 2, 1);
        x.atom(0, 6, 0, 0);
        // Atom 1 passes over 0, which does not do; 2 goes back to 0; for 0 both 3 and 4 would do.
        dueHanging("several to hang on", x, true,
                new int[] {3, 2, 0, 4, 5, -1}, new int[] {2, 0, 1, 3, 4, -1});
    }

    private static void itIsNotHungOnOneThatIsNotLeft() {
        JoinedLeaves x = withRelations(1);
        for (int i = 0; i < 6; i++) {
            x.atom(0, 7, 0, 0);
        }
        dueHanging("the same atom", x, true,
                new int[] {1, 2, 3, 4, 5, -1}, new int[] {0, 1, 2, 3, 4, -1});
    }

    // "The question is a TREE when at most one atom is left in the end, which is the ROOT then."

    private static void aTreeHasAtMostOneAtomLeft() {
        JoinedLeaves x = withRelations(2, 3);
        due("no atom left", true, x::tree);
        x.atom(0, 0, 1, 0);
        due("the only atom left", true, x::tree);
        x.atom(0, 1, 0, 0);
        due("one of two left", true, x::tree);
        x.atom(0, 1, 2, 0);
        due("one of three left", true, x::tree);
        x.atom(0, 2, 0, 0);
        due("a ring", false, x::tree);
        x.atom(1, 0, 1, 2);
        due("a ring within an atom", true, x::tree);
    }

    private static void threeAndMoreLeftAreNoTree() {
        int[] all = {-1, -1, -1, -1, -1, -1};
        for (int length = 3; length <= 6; length++) {
            JoinedLeaves x = withRelations(2);
            for (int i = 0; i < length; i++) {
                x.atom(0, i, (i + 1) % length, 0);
            }
            dueHanging("a ring of " + length, x, false, all, all);
        }
    }

    private static void hangingGoesOnAsLongAsThereIsAnEar() {
        JoinedLeaves x = withRelations(2);
        x.atom(0, 0, 1, 0);
        x.atom(0, 3, 4, 0);
        x.atom(0, 1, 2, 0);
        x.atom(0, 2, 3, 0);
        x.atom(0, 2, 0, 0);
        x.atom(0, 7, 7, 0);
        dueHanging("a ring with a tail and one apart", x, false,
                new int[] {-1, 3, -1, 2, -1, 0}, new int[] {-1, 0, -1, 1, -1, 2});
    }

    // "When several exceptions would do that a call names, the one named first is thrown"

    private static void theFirstNamedExceptionOfLive() {
        JoinedLeaves x = ring();
        for (int none : new int[] {-1, 3, 6, LOW, HIGH}) {
            due("no tree, and no atom " + none, ISE, () -> x.live(none));
        }
        x.clear();
        due("no atom 0 alone", IOOBE, () -> x.live(0));
    }

    private static void theFirstNamedExceptionOfAnswersAndAnswer() {
        JoinedLeaves x = ring();
        x.relation(1);
        count(x, 1, 12);
        x.atom(1, 3, 0, 0);
        x.atom(1, 4, 0, 0);
        heads(x, 3, 4, 7);
        dueThrow("no tree, an unbound variable, no such answer", x, ISE);
        x.clear();
        x.atom(1, 3, 0, 0);
        x.atom(1, 4, 0, 0);
        heads(x, 3, 4, 7);
        dueThrow("an unbound variable, too many, no such answer", x, IAE);
        x.atom(1, 7, 0, 0);
        dueThrow("too many, no such answer", x, UOE);
        x.drop(1, 11, 0, 0);
        x.clear();
        x.atom(1, 3, 0, 0);
        heads(x, 3);
        due("no exception", 11, x::answers);
        due("no such answer alone", IOOBE, () -> x.answer(11, 0));
        due("no such value alone", IOOBE, () -> x.answer(0, 1));
    }

    private static void dueThrow(String name, JoinedLeaves x, String want) {
        due(name + ": answers()", want, x::answers);
        due(name + ": answer(0, 0)", want, () -> x.answer(0, 0));
        due(name + ": answer(0, -1)", want, () -> x.answer(0, -1));
        due(name + ": answer(-1, 0)", want, () -> x.answer(-1, 0));
        due(name + ": answer(LOW, HIGH)", want, () -> x.answer(LOW, HIGH));
    }
}
