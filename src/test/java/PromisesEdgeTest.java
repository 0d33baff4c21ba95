/** The boundary cases that the document names under 'Promise 1' to 'Promise 15', each by itself. */
public final class PromisesEdgeTest extends CallTest {
    private static final int[] NO_ATOM_OF_TWO = {-1, 2, 5, 6, 32, LOW, HIGH};

    public static void main(String[] args) {
        promise1();
        promises2To5();
        promises6To8();
        promises9To11();
        promises12And13();
        promise14();
        promise15();
        end("all boundary cases of the promises are as due");
    }

    private static void promise1() {
        aNewObjectHasNoRelations();
        aNewObjectHasNoAtoms();
        aNewObjectHasAnEmptyHead();
    }

    private static void promises2To5() {
        aRelationIsMadeWithoutRows();
        relationIsRefusedWhenWidthIsNot1To3();
        relationIsRefusedWhenThereAre6();
        addIsRefusedWhenThereIsNoSuchRelation();
        addIsRefusedWhenOneOfTheValuesIsOutside();
        addIsRefusedWhenItHasThisRow();
        addIsRefusedWhenItHas12();
        dropIsRefusedWhenThereIsNoSuchRelation();
        dropIsRefusedWhenTheRelationIsEmpty();
        dropIsRefusedWhenAValueIsOutside();
        dropIsRefusedWhenOnlyAnotherRelationHasTheRow();
        dropTakesEachRowOfAFullRelation();
        rowsFromEmptyToFull();
        rowsOfNoRelation();
    }

    private static void promises6To8() {
        atomIsRefusedWhenThereIsNoSuchRelation();
        atomIsRefusedWhenOneOfTheVariablesIsOutside();
        atomIsRefusedWhenThereAre6();
        headIsRefusedWhenNot0To7();
        headIsRefusedWhenItIsThereAlready();
        headIsRefusedWhenThereAre4();
        headTakesAVariableThatIsInNoAtom();
        clearOfNothing();
        clearOfAHeadAlone();
        clearOfAFullQuestion();
        clearLeavesTheRelations();
    }

    private static void promises9To11() {
        treeDoesNotLookAtRows();
        parentAndTurnOfTheRoot();
        parentAndTurnOfNoSuchAtom();
        parentAndTurnWhenTheQuestionIsNoTree();
        parentAndTurnFollowTheAtoms();
    }

    private static void promises12And13() {
        noWayAndOneWay();
        theMostWays();
        waysOfNoTree();
        liveFromNoneToAll();
        eachRowOfAFullRelationIsLiveOrNot();
        liveOfNoSuchAtom();
        liveOfNoTree();
    }

    private static void promise14() {
        answersOfAnEmptyHead();
        answersWhenEachAtomHasRowsButThereIsNoWay();
        noAnswerAndOneAnswer();
        answersWhenAVariableOfTheHeadIsInNoAtom();
        answersWhenEachVariableInTurnIsInNoAtom();
        answersOfNoTree();
        sixtyFourAnswers();
        sixtyFiveAnswersAreTooMany();
        theMostAnswersAreTooMany();
        manyWaysAreNotTooManyAnswers();
    }

    private static void promise15() {
        firstAndLastAnswer();
        firstAndLastValue();
        answerOfAnEmptyHead();
        answerWhenThereIsNoAnswer();
        theLastOfSixtyFour();
        answersInOrder();
        answerWhenAnswersThrows();
    }

    // Promise 1: "No relations, no atoms, an empty head."

    private static void aNewObjectHasNoRelations() {
        JoinedLeaves x = new JoinedLeaves();
        for (int none : new int[] {-1, 0, 1, 5, 6, LOW, HIGH}) {
            due("new: rows(" + none + ")", -1, () -> x.rows(none));
            due("new: add to " + none, false, () -> x.add(none, 0, 0, 0));
            due("new: drop from " + none, false, () -> x.drop(none, 0, 0, 0));
            due("new: atom of " + none, -1, () -> x.atom(none, 0, 0, 0));
        }
        due("new: the first relation", 0, () -> x.relation(3));
    }

    private static void aNewObjectHasNoAtoms() {
        JoinedLeaves x = new JoinedLeaves();
        dueNoAtoms("new", x);
        due("new: clear()", 0, x::clear);
        x.relation(1);
        due("new: the first atom", 0, () -> x.atom(0, 0, 0, 0));
    }

    private static void dueNoAtoms(String name, JoinedLeaves x) {
        due(name + ": tree()", true, x::tree);
        due(name + ": ways()", 1L, x::ways);
        for (int none : new int[] {-1, 0, 1, 5, 6, LOW, HIGH}) {
            due(name + ": parent(" + none + ")", -1, () -> x.parent(none));
            due(name + ": turn(" + none + ")", -1, () -> x.turn(none));
            due(name + ": live(" + none + ")", IOOBE, () -> x.live(none));
        }
    }

    private static void aNewObjectHasAnEmptyHead() {
        JoinedLeaves x = new JoinedLeaves();
        due("new: answers()", 1, x::answers);
        due("new: answer(0, 0)", IOOBE, () -> x.answer(0, 0));
        due("new: the first place of the head", 0, () -> x.head(0));
    }

    // Promise 2: "Makes a relation without rows. Answers its number; NONE when width is not
    // 1 .. 3, or there are 6."

    private static void aRelationIsMadeWithoutRows() {
        for (int width = 1; width <= 3; width++) {
            JoinedLeaves x = withRelations(width);
            due("rows of width " + width, 0, () -> x.rows(0));
            due("no row 0", false, () -> x.drop(0, 0, 0, 0));
            x.atom(0, 0, 1, 2);
            due("no ways", 0L, x::ways);
            due("no live rows", 0, () -> x.live(0));
        }
    }

    private static void relationIsRefusedWhenWidthIsNot1To3() {
        JoinedLeaves x = new JoinedLeaves();
        for (int width : new int[] {0, -1, 4, LOW, HIGH}) {
            due("relation(" + width + ")", -1, () -> x.relation(width));
            due("rows(0)", -1, () -> x.rows(0));
        }
        due("relation(1)", 0, () -> x.relation(1));
        due("relation(3)", 1, () -> x.relation(3));
        due("relation(4)", -1, () -> x.relation(4));
        due("relation(2)", 2, () -> x.relation(2));
    }

    private static void relationIsRefusedWhenThereAre6() {
        JoinedLeaves x = withRelations(1, 2, 3, 3, 2);
        due("the sixth", 5, () -> x.relation(1));
        for (int width : new int[] {1, 2, 3, 0, 4, LOW, HIGH}) {
            due("the seventh, relation(" + width + ")", -1, () -> x.relation(width));
        }
        due("clear()", 0, x::clear);
        due("the seventh after clear()", -1, () -> x.relation(1));
        due("rows(5)", 0, () -> x.rows(5));
        due("rows(6)", -1, () -> x.rows(6));
    }

    // Promise 3: "Answers true; false when there is no such relation, one of these is not
    // 0 .. 15, it has this row, or it has 12."

    private static void addIsRefusedWhenThereIsNoSuchRelation() {
        JoinedLeaves x = withRelations(1, 1);
        for (int none : new int[] {-1, 2, 5, 6, LOW, HIGH}) {
            due("add to " + none, false, () -> x.add(none, 1, 1, 1));
        }
        due("rows(0)", 0, () -> x.rows(0));
        due("add to 0", true, () -> x.add(0, 1, 1, 1));
        due("add to 1", true, () -> x.add(1, 1, 1, 1));
    }

    private static void addIsRefusedWhenOneOfTheValuesIsOutside() {
        JoinedLeaves x = withRelations(3);
        int[][] outside = {{-1, 0, 0}, {16, 15, 15}, {0, -1, 0}, {15, 16, 15}, {0, 0, -1}, {15, 15, 16},
            {LOW, 0, 0}, {0, LOW, 0}, {0, 0, LOW}, {HIGH, 0, 0}, {0, HIGH, 0}, {0, 0, HIGH},
            {-1, -1, -1}, {16, 16, 16}, {LOW, LOW, LOW}, {HIGH, HIGH, HIGH}};
        for (int[] row : outside) {
            due("add " + row[0] + ", " + row[1] + ", " + row[2], false,
                    () -> x.add(0, row[0], row[1], row[2]));
        }
        due("rows(0)", 0, () -> x.rows(0));
        due("add 0, 0, 0", true, () -> x.add(0, 0, 0, 0));
        due("add 15, 15, 15", true, () -> x.add(0, 15, 15, 15));
    }

    private static void addIsRefusedWhenItHasThisRow() {
        JoinedLeaves x = withRelations(1, 2, 3);
        for (int i = 0; i < 3; i++) {
            int relation = i;
            due("the first time", true, () -> x.add(relation, 4, 5, 6));
            due("the second time", false, () -> x.add(relation, 4, 5, 6));
            due("rows(" + i + ")", 1, () -> x.rows(relation));
            due("drop", true, () -> x.drop(relation, 4, 5, 6));
            due("after a drop", true, () -> x.add(relation, 4, 5, 6));
        }
        due("width 2, another first value", true, () -> x.add(1, 5, 5, 6));
        due("width 2, another second value", true, () -> x.add(1, 4, 4, 6));
        due("width 3, another third value", true, () -> x.add(2, 4, 5, 5));
    }

    private static void addIsRefusedWhenItHas12() {
        JoinedLeaves x = withRelations(1, 1);
        count(x, 0, 12);
        due("a new row", false, () -> x.add(0, 12, 0, 0));
        due("a row that it has", false, () -> x.add(0, 11, 0, 0));
        due("a value outside", false, () -> x.add(0, 16, 0, 0));
        due("rows(0)", 12, () -> x.rows(0));
        due("another relation", true, () -> x.add(1, 12, 0, 0));
        due("make place", true, () -> x.drop(0, 0, 0, 0));
        due("into that place", true, () -> x.add(0, 12, 0, 0));
        due("full again", false, () -> x.add(0, 0, 0, 0));
        due("rows(0) in the end", 12, () -> x.rows(0));
    }

    // Promise 4: "Answers true; false when there is no such relation, or it has no such row."

    private static void dropIsRefusedWhenThereIsNoSuchRelation() {
        JoinedLeaves x = withRelations(1, 1);
        fill(x, 0, 1, 0, 0);
        fill(x, 1, 1, 0, 0);
        for (int none : new int[] {-1, 2, 5, 6, LOW, HIGH}) {
            due("drop from " + none, false, () -> x.drop(none, 1, 0, 0));
        }
        due("rows", "11", () -> "" + x.rows(0) + x.rows(1));
        due("drop from 0", true, () -> x.drop(0, 1, 0, 0));
        due("drop from 1", true, () -> x.drop(1, 1, 0, 0));
    }

    private static void dropIsRefusedWhenTheRelationIsEmpty() {
        JoinedLeaves x = withRelations(2);
        due("never filled", false, () -> x.drop(0, 0, 0, 0));
        fill(x, 0, 0, 0, 0);
        due("the only row", true, () -> x.drop(0, 0, 0, 0));
        due("emptied", false, () -> x.drop(0, 0, 0, 0));
        due("rows(0)", 0, () -> x.rows(0));
    }

    private static void dropIsRefusedWhenAValueIsOutside() {
        JoinedLeaves x = withRelations(3);
        fill(x, 0, 0, 0, 0, 15, 15, 15, 0, 1, 0, 0, 0, 1, 1, 0, 0, 15, 0, 0);
        // Were values cut off or carried over, each of these would be one of the rows.
        int[][] outside = {{16, 0, 0}, {0, 16, 0}, {0, 0, 16}, {17, 0, 0}, {256, 0, 0}, {-1, -1, -1},
            {-1, 0, 0}, {LOW, 0, 0}, {0, LOW, 0}, {0, 0, LOW}, {HIGH, HIGH, HIGH}, {HIGH, 0, 0}};
        for (int[] row : outside) {
            due("drop " + row[0] + ", " + row[1] + ", " + row[2], false,
                    () -> x.drop(0, row[0], row[1], row[2]));
        }
        due("rows(0)", 6, () -> x.rows(0));
        due("drop 0, 0, 0", true, () -> x.drop(0, 0, 0, 0));
        due("drop 15, 15, 15", true, () -> x.drop(0, 15, 15, 15));
    }

    private static void dropIsRefusedWhenOnlyAnotherRelationHasTheRow() {
        JoinedLeaves x = withRelations(2, 2);
        fill(x, 0, 1, 2, 0);
        due("drop from 1", false, () -> x.drop(1, 1, 2, 0));
        due("the other way round", false, () -> x.drop(0, 2, 1, 0));
        due("rows", "10", () -> "" + x.rows(0) + x.rows(1));
    }

    private static void dropTakesEachRowOfAFullRelation() {
        for (int i = 0; i < 12; i++) {
            JoinedLeaves x = withRelations(1);
            count(x, 0, 12);
            int dropped = i;
            due("drop row " + i, true, () -> x.drop(0, dropped, 0, 0));
            due("rows(0)", 11, () -> x.rows(0));
            for (int j = 0; j < 12; j++) {
                int row = j;
                due("row " + j + " after the drop of " + i, j != i, () -> x.drop(0, row, 0, 0));
            }
            due("rows(0) in the end", 0, () -> x.rows(0));
        }
    }

    // Promise 5: "How many rows a relation has; NONE when there is none."

    private static void rowsFromEmptyToFull() {
        JoinedLeaves x = withRelations(3);
        for (int i = 0; i < 12; i++) {
            due("rows before row " + i, i, () -> x.rows(0));
            fill(x, 0, i, 15, 0);
        }
        due("rows of a full relation", 12, () -> x.rows(0));
        for (int i = 11; i >= 0; i--) {
            int row = i;
            x.drop(0, row, 15, 0);
            due("rows after the drop of row " + i, i, () -> x.rows(0));
        }
    }

    private static void rowsOfNoRelation() {
        JoinedLeaves x = withRelations(1, 2);
        for (int none : new int[] {-1, 2, 5, 6, LOW, HIGH}) {
            due("rows(" + none + ")", -1, () -> x.rows(none));
        }
        due("rows of an empty relation", 0, () -> x.rows(1));
    }

    // Promise 6: "Answers its number; NONE when there is no such relation, one of these is not
    // 0 .. 7, or there are 6."

    private static void atomIsRefusedWhenThereIsNoSuchRelation() {
        JoinedLeaves x = withRelations(1, 1);
        for (int none : new int[] {-1, 2, 5, 6, LOW, HIGH}) {
            due("atom of " + none, -1, () -> x.atom(none, 1, 1, 1));
        }
        due("atom of 0", 0, () -> x.atom(0, 1, 1, 1));
        due("atom of 1", 1, () -> x.atom(1, 1, 1, 1));
    }

    private static void atomIsRefusedWhenOneOfTheVariablesIsOutside() {
        JoinedLeaves x = withRelations(3);
        int[][] outside = {{-1, 0, 0}, {8, 7, 7}, {0, -1, 0}, {7, 8, 7}, {0, 0, -1}, {7, 7, 8},
            {LOW, 0, 0}, {0, LOW, 0}, {0, 0, LOW}, {HIGH, 0, 0}, {0, HIGH, 0}, {0, 0, HIGH},
            {-1, -1, -1}, {8, 8, 8}, {32, 32, 32}, {LOW, LOW, LOW}, {HIGH, HIGH, HIGH}};
        for (int[] atom : outside) {
            due("atom " + atom[0] + ", " + atom[1] + ", " + atom[2], -1,
                    () -> x.atom(0, atom[0], atom[1], atom[2]));
        }
        dueNoAtoms("all refused", x);
        due("atom 0, 0, 0", 0, () -> x.atom(0, 0, 0, 0));
        due("atom 7, 7, 7", 1, () -> x.atom(0, 7, 7, 7));
    }

    private static void atomIsRefusedWhenThereAre6() {
        JoinedLeaves x = withRelations(1, 2);
        for (int i = 0; i < 6; i++) {
            due("atom " + i, i, () -> x.atom(0, 0, 0, 0));
        }
        due("the seventh atom", -1, () -> x.atom(0, 0, 0, 0));
        due("the seventh atom, of another relation", -1, () -> x.atom(1, 1, 2, 0));
        due("the seventh atom, a variable outside", -1, () -> x.atom(0, 8, 0, 0));
        due("the seventh atom, no such relation", -1, () -> x.atom(2, 0, 0, 0));
        due("clear()", 6, x::clear);
        due("after clear()", 0, () -> x.atom(0, 0, 0, 0));
    }

    // Promise 7: "Answers its place there; NONE when it is not 0 .. 7, it is there already, or
    // there are 4."

    private static void headIsRefusedWhenNot0To7() {
        JoinedLeaves x = new JoinedLeaves();
        for (int variable : new int[] {-1, 8, 16, 32, LOW, HIGH}) {
            due("head(" + variable + ")", -1, () -> x.head(variable));
        }
        due("the head is empty", 1, x::answers);
        due("head(7)", 0, () -> x.head(7));
        due("head(0)", 1, () -> x.head(0));
    }

    private static void headIsRefusedWhenItIsThereAlready() {
        JoinedLeaves x = new JoinedLeaves();
        due("head(0)", 0, () -> x.head(0));
        due("head(0) again", -1, () -> x.head(0));
        due("head(7)", 1, () -> x.head(7));
        due("head(0) again", -1, () -> x.head(0));
        due("head(7) again", -1, () -> x.head(7));
        x.clear();
        due("head(7) after clear()", 0, () -> x.head(7));
    }

    private static void headIsRefusedWhenThereAre4() {
        JoinedLeaves x = new JoinedLeaves();
        for (int i = 0; i < 4; i++) {
            int place = i;
            due("place " + i, i, () -> x.head(2 * place));
        }
        for (int variable : new int[] {1, 3, 5, 7, 0, 6, -1, 8, LOW, HIGH}) {
            due("full: head(" + variable + ")", -1, () -> x.head(variable));
        }
        x.clear();
        due("after clear()", 0, () -> x.head(1));
    }

    private static void headTakesAVariableThatIsInNoAtom() {
        JoinedLeaves x = withRelations(1);
        fill(x, 0, 9, 0, 0);
        due("before there are atoms", 0, () -> x.head(5));
        x.atom(0, 4, 0, 0);
        due("beside another atom", 1, () -> x.head(6));
        due("answers()", IAE, x::answers);
        x.atom(0, 5, 0, 0);
        due("answers() with one of them bound", IAE, x::answers);
        x.atom(0, 6, 0, 0);
        dueAnswers("with both of them bound", x, 2, "99");
    }

    // Promise 8: "The question has no atoms and no head then (relations stay). Answers how many
    // atoms it had."

    private static void clearOfNothing() {
        JoinedLeaves x = new JoinedLeaves();
        due("clear()", 0, x::clear);
        due("clear() again", 0, x::clear);
        dueNoAtoms("cleared", x);
    }

    private static void clearOfAHeadAlone() {
        JoinedLeaves x = new JoinedLeaves();
        heads(x, 0, 1, 2, 3);
        due("answers() before", IAE, x::answers);
        due("clear()", 0, x::clear);
        due("answers() after", 1, x::answers);
        due("the first place", 0, () -> x.head(3));
    }

    private static void clearOfAFullQuestion() {
        JoinedLeaves x = withRelations(2);
        count(x, 0, 2);
        for (int i = 0; i < 6; i++) {
            x.atom(0, i, (i + 1) % 6, 0);
        }
        heads(x, 0, 1, 2, 3);
        due("no tree before", false, x::tree);
        due("clear()", 6, x::clear);
        dueNoAtoms("cleared", x);
        due("answers()", 1, x::answers);
        due("answer(0, 0)", IOOBE, () -> x.answer(0, 0));
        due("clear() again", 0, x::clear);
        due("the first atom", 0, () -> x.atom(0, 6, 7, 0));
        due("the first place", 0, () -> x.head(7));
        dueAnswers("the next question", x, 1, "1", "2");
        dueHanging("the next question", x, true, new int[] {-1, -1}, new int[] {-1, -1});
    }

    private static void clearLeavesTheRelations() {
        JoinedLeaves x = withRelations(1, 2, 3, 1, 2, 3);
        for (int i = 0; i < 6; i++) {
            count(x, i, 12);
        }
        x.atom(2, 0, 1, 2);
        x.clear();
        for (int i = 0; i < 6; i++) {
            int relation = i;
            due("rows(" + i + ")", 12, () -> x.rows(relation));
        }
        due("relation 2 is 3 wide", -1, () -> x.atom(2, 0, 1, 8));
        due("an atom of relation 2", 0, () -> x.atom(2, 0, 1, 2));
        heads(x, 0);
        due("its rows", 12, x::answers);
        due("the seventh relation", -1, () -> x.relation(1));
    }

    // Promise 9: "Whether the question is a tree."

    private static void treeDoesNotLookAtRows() {
        JoinedLeaves x = withRelations(2);
        x.atom(0, 0, 1, 0);
        x.atom(0, 1, 2, 0);
        due("a tree without rows", true, x::tree);
        count(x, 0, 12);
        due("a tree with rows", true, x::tree);
        x.atom(0, 2, 0, 0);
        due("a ring with rows", false, x::tree);
        for (int i = 0; i < 12; i++) {
            x.drop(0, i, i + 1, 0);
        }
        due("a ring without rows", false, x::tree);
    }

    // Promises 10 and 11: "[..] (also when the question is no tree); NONE when it is left, or
    // there is no such atom." "(0 for the first one that was hung)"

    private static void parentAndTurnOfTheRoot() {
        JoinedLeaves x = withRelations(1);
        for (int i = 0; i < 6; i++) {
            int root = i;
            x.atom(0, 0, 0, 0);
            due("parent of the root", -1, () -> x.parent(root));
            due("turn of the root", -1, () -> x.turn(root));
            due("turn of the first one", i == 0 ? -1 : 0, () -> x.turn(0));
            due("turn of the last one", i == 0 ? -1 : i - 1, () -> x.turn(root - 1));
        }
    }

    private static void parentAndTurnOfNoSuchAtom() {
        JoinedLeaves x = withRelations(1);
        x.atom(0, 0, 0, 0);
        x.atom(0, 0, 0, 0);
        for (int none : NO_ATOM_OF_TWO) {
            due("parent(" + none + ")", -1, () -> x.parent(none));
            due("turn(" + none + ")", -1, () -> x.turn(none));
        }
        due("parent(0)", 1, () -> x.parent(0));
        due("turn(0)", 0, () -> x.turn(0));
        for (int i = 2; i < 6; i++) {
            x.atom(0, 0, 0, 0);
        }
        due("parent(4) of six", 5, () -> x.parent(4));
        due("turn(4) of six", 4, () -> x.turn(4));
        x.clear();
        due("parent(0) after clear()", -1, () -> x.parent(0));
        due("turn(0) after clear()", -1, () -> x.turn(0));
        x.atom(0, 0, 0, 0);
        due("parent(1) of a shorter question", -1, () -> x.parent(1));
        due("turn(1) of a shorter question", -1, () -> x.turn(1));
    }

    private static void parentAndTurnWhenTheQuestionIsNoTree() {
        JoinedLeaves x = withRelations(2, 1);
        x.atom(1, 2, 0, 0);
        x.atom(0, 0, 1, 0);
        x.atom(0, 1, 2, 0);
        x.atom(0, 2, 0, 0);
        x.atom(0, 2, 3, 0);
        x.atom(0, 3, 4, 0);
        dueHanging("a ring with leaves", x, false,
                new int[] {2, -1, -1, -1, 2, 4}, new int[] {0, -1, -1, -1, 2, 1});
    }

    private static void parentAndTurnFollowTheAtoms() {
        JoinedLeaves x = withRelations(2);
        x.atom(0, 0, 1, 0);
        dueHanging("one atom", x, true, new int[] {-1}, new int[] {-1});
        x.atom(0, 0, 2, 0);
        dueHanging("two atoms", x, true, new int[] {1, -1}, new int[] {0, -1});
        x.atom(0, 1, 3, 0);
        dueHanging("three atoms", x, true, new int[] {2, 0, -1}, new int[] {1, 0, -1});
        x.atom(0, 2, 3, 0);
        dueHanging("four atoms", x, false, new int[] {-1, -1, -1, -1}, new int[] {-1, -1, -1, -1});
    }

    // Promise 12: "How many ways there are. IllegalStateException: the question is no tree."

    private static void noWayAndOneWay() {
        JoinedLeaves x = withRelations(1, 1);
        x.atom(0, 0, 0, 0);
        due("an atom without rows", 0L, x::ways);
        fill(x, 0, 5, 0, 0);
        due("an atom with a row", 1L, x::ways);
        x.atom(1, 0, 0, 0);
        due("beside one without rows", 0L, x::ways);
        fill(x, 1, 6, 0, 0);
        due("rows that do not meet", 0L, x::ways);
        fill(x, 1, 5, 0, 0);
        due("rows that meet", 1L, x::ways);
    }

    private static void theMostWays() {
        for (int width = 1; width <= 3; width++) {
            JoinedLeaves x = withRelations(width);
            count(x, 0, 12);
            for (int i = 0; i < 6; i++) {
                x.atom(0, i, i, i);
            }
            due("no row fits unless it is 1 wide", width == 1 ? 2985984L : 0L, x::ways);
        }
        JoinedLeaves y = withRelations(2);
        for (int i = 0; i < 12; i++) {
            fill(y, 0, 3, i, 0);
        }
        for (int i = 1; i < 7; i++) {
            y.atom(0, 0, i, 0);
        }
        due("12 to the 6th, joined", 2985984L, y::ways);
        due("live of the first one", 12, () -> y.live(0));
        due("live of the root", 12, () -> y.live(5));
    }

    private static void waysOfNoTree() {
        JoinedLeaves x = ring();
        due("ways() of a ring without rows", ISE, x::ways);
        fill(x, 0, 1, 1, 0);
        due("ways() of a ring with a row", ISE, x::ways);
        due("ways() of a ring again", ISE, x::ways);
    }

    // Promise 13: "How many rows of an atom's relation are live for it. IllegalStateException:
    // the question is no tree; IndexOutOfBoundsException: there is no such atom."

    private static void liveFromNoneToAll() {
        JoinedLeaves x = withRelations(1, 1);
        x.atom(0, 0, 0, 0);
        x.atom(1, 0, 0, 0);
        count(x, 0, 12);
        due("beside one without rows", 0, () -> x.live(0));
        due("without rows", 0, () -> x.live(1));
        for (int i = 0; i < 12; i++) {
            fill(x, 1, i, 0, 0);
            due("live(0) of " + i, i + 1, () -> x.live(0));
            due("live(1) of " + i, i + 1, () -> x.live(1));
        }
    }

    private static void eachRowOfAFullRelationIsLiveOrNot() {
        for (int i = 0; i < 12; i++) {
            int value = i;
            JoinedLeaves x = withRelations(1, 1);
            count(x, 0, 12);
            fill(x, 1, value, 0, 0);
            dueMeeting("row " + i + " alone is live", x, 1, value);
            count(x, 1, value);
            for (int after = value + 1; after < 12; after++) {
                fill(x, 1, after, 0, 0);
            }
            due("the row that was alone", true, () -> x.drop(1, value, 0, 0));
            dueMeeting("row " + i + " alone is not live", x, 11, value == 11 ? 10 : 11);
        }
    }

    /** Joins relations 0 and 1, first with the one and then with the other as the root. */
    private static void dueMeeting(String name, JoinedLeaves x, int met, int last) {
        for (int i = 0; i < 2; i++) {
            x.clear();
            x.atom(i, 0, 0, 0);
            x.atom(1 - i, 0, 0, 0);
            x.head(0);
            due(name + ": ways()", (long) met, x::ways);
            due(name + ": live(0)", met, () -> x.live(0));
            due(name + ": live(1)", met, () -> x.live(1));
            due(name + ": answers()", met, x::answers);
            due(name + ": the last answer", last, () -> x.answer(met - 1, 0));
        }
    }

    private static void liveOfNoSuchAtom() {
        JoinedLeaves x = withRelations(1);
        fill(x, 0, 1, 0, 0);
        x.atom(0, 0, 0, 0);
        x.atom(0, 1, 0, 0);
        for (int none : NO_ATOM_OF_TWO) {
            due("live(" + none + ")", IOOBE, () -> x.live(none));
        }
        due("live(0)", 1, () -> x.live(0));
        due("live(1)", 1, () -> x.live(1));
        x.clear();
        due("live(0) after clear()", IOOBE, () -> x.live(0));
    }

    private static void liveOfNoTree() {
        JoinedLeaves x = ring();
        for (int atom : new int[] {0, 1, 2, 3, -1, 6, LOW, HIGH}) {
            due("live(" + atom + ") of a ring", ISE, () -> x.live(atom));
        }
    }

    // Promise 14: "How many answers there are (of an empty head 1 if there is a way, else 0).
    // IllegalStateException: the question is no tree; IllegalArgumentException: a variable of the
    // head is in no atom; UnsupportedOperationException: there are more than 64."

    private static void answersOfAnEmptyHead() {
        JoinedLeaves x = withRelations(1);
        due("without atoms", 1, x::answers);
        x.atom(0, 0, 0, 0);
        due("without a way", 0, x::answers);
        fill(x, 0, 5, 0, 0);
        due("with a way", 1, x::answers);
        fill(x, 0, 6, 0, 0);
        for (int i = 1; i < 6; i++) {
            x.atom(0, i, 0, 0);
        }
        due("with 64 ways", 1, x::answers);
        fill(x, 0, 7, 0, 0);
        due("with 729 ways", 1, x::answers);
    }

    private static void answersWhenEachAtomHasRowsButThereIsNoWay() {
        JoinedLeaves x = withRelations(1, 1);
        fill(x, 0, 5, 0, 0);
        fill(x, 1, 6, 0, 0);
        x.atom(0, 0, 0, 0);
        x.atom(1, 0, 0, 0);
        due("of an empty head", 0, x::answers);
        x.head(0);
        due("of a head of one", 0, x::answers);
        due("the first one", IOOBE, () -> x.answer(0, 0));
        fill(x, 1, 5, 0, 0);
        dueAnswers("with a way", x, 1, "5");
    }

    private static void noAnswerAndOneAnswer() {
        JoinedLeaves x = withRelations(2);
        x.atom(0, 0, 1, 0);
        heads(x, 1, 0);
        due("no answer", 0, x::answers);
        fill(x, 0, 4, 5, 0);
        dueAnswers("one answer", x, 2, "54");
    }

    private static void answersWhenAVariableOfTheHeadIsInNoAtom() {
        JoinedLeaves x = withRelations(2);
        fill(x, 0, 4, 5, 0);
        x.head(3);
        due("without atoms", IAE, x::answers);
        x.atom(0, 0, 1, 0);
        due("beside an atom", IAE, x::answers);
        x.head(0);
        due("with one that is in an atom", IAE, x::answers);
        x.drop(0, 4, 5, 0);
        due("without a way", IAE, x::answers);
        x.atom(0, 2, 3, 0);
        due("in the last column of the last atom", 0, x::answers);
        fill(x, 0, 4, 5, 0);
        dueAnswers("with a way", x, 2, "54");
    }

    private static void answersWhenEachVariableInTurnIsInNoAtom() {
        for (int i = 0; i < 8; i++) {
            JoinedLeaves x = withRelations(1);
            fill(x, 0, 9, 0, 0);
            int variable = i;
            x.atom(0, (variable + 1) % 8, 0, 0);
            x.head(variable);
            due("without variable " + i, IAE, x::answers);
            due("without variable " + i, IAE, () -> x.answer(0, 0));
            x.atom(0, variable, 0, 0);
            dueAnswers("with variable " + i, x, 1, "9");
        }
    }

    private static void answersOfNoTree() {
        JoinedLeaves x = ring();
        due("of an empty head", ISE, x::answers);
        x.head(0);
        due("of a head", ISE, x::answers);
        x.head(7);
        due("of a head with a variable in no atom", ISE, x::answers);
    }

    /** As many answers as the counts of these give, multiplied: one variable for each. */
    private static JoinedLeaves product(int... counts) {
        JoinedLeaves x = new JoinedLeaves();
        for (int i = 0; i < counts.length; i++) {
            x.relation(1);
            count(x, i, counts[i]);
            x.atom(i, i, 0, 0);
            x.head(i);
        }
        return x;
    }

    /** Eight times eight answers, and one more if asked, of a head of two variables. */
    private static JoinedLeaves eightTimesEight(boolean andOneMore) {
        JoinedLeaves x = withRelations(2, 2);
        for (int i = 0; i < 8; i++) {
            fill(x, 0, 0, i, 0);
            fill(x, 1, 0, i, 0);
        }
        fill(x, 0, 1, 15, 0);
        if (andOneMore) {
            fill(x, 1, 1, 15, 0);
        }
        x.atom(0, 0, 1, 0);
        x.atom(1, 0, 2, 0);
        heads(x, 1, 2);
        return x;
    }

    private static void sixtyFourAnswers() {
        due("8 times 8", 64, product(8, 8)::answers);
        due("4 times 4 times 4", 64, product(4, 4, 4)::answers);
        due("2 times 4 times 4 times 2", 64, product(2, 4, 4, 2)::answers);
        due("9 times 7", 63, product(9, 7)::answers);
        due("12 times 5", 60, product(12, 5)::answers);
        due("8 times 8, joined", 64, eightTimesEight(false)::answers);
    }

    private static void sixtyFiveAnswersAreTooMany() {
        JoinedLeaves x = eightTimesEight(true);
        due("65 ways", 65L, x::ways);
        due("65 answers", UOE, x::answers);
        x.drop(1, 1, 15, 0);
        due("one less", 64, x::answers);
        x.add(1, 1, 15, 0);
        due("one more", UOE, x::answers);
        x.drop(0, 0, 0, 0);
        due("eight less", 57, x::answers);
        due("11 times 6", UOE, product(11, 6)::answers);
        due("6 times 11", UOE, product(6, 11)::answers);
    }

    private static void theMostAnswersAreTooMany() {
        due("12 times 12", UOE, product(12, 12)::answers);
        due("12 to the third", UOE, product(12, 12, 12)::answers);
        JoinedLeaves x = product(12, 12, 12, 12);
        due("12 to the fourth", UOE, x::answers);
        due("12 to the fourth, ways", 20736L, x::ways);
        due("12 to the fourth again", UOE, x::answers);
    }

    private static void manyWaysAreNotTooManyAnswers() {
        JoinedLeaves x = product(12);
        for (int i = 1; i < 6; i++) {
            x.atom(0, i, 0, 0);
        }
        due("ways", 2985984L, x::ways);
        due("answers", 12, x::answers);
        due("the last one", 11, () -> x.answer(11, 0));
    }

    // Promise 15: "Value i of answer k; answers come in order: of two, the one with the lesser
    // value at the first place where they differ comes first. [..] IndexOutOfBoundsException:
    // there is no such answer, or it has no such value."

    private static void firstAndLastAnswer() {
        for (int count = 1; count <= 12; count++) {
            JoinedLeaves x = product(count);
            int last = count - 1;
            due("the first of " + count, 0, () -> x.answer(0, 0));
            due("the last of " + count, last, () -> x.answer(last, 0));
            for (int none : new int[] {-1, count, 63, 64, LOW, HIGH}) {
                due("answer(" + none + ", 0) of " + count, IOOBE, () -> x.answer(none, 0));
            }
        }
    }

    private static void firstAndLastValue() {
        JoinedLeaves x = withRelations(3, 1);
        fill(x, 0, 15, 0, 14);
        fill(x, 1, 1, 0, 0);
        x.atom(0, 4, 5, 6);
        x.atom(1, 7, 0, 0);
        String[] want = {"f", "f0", "f0e", "f0e1"};
        for (int length = 1; length <= 4; length++) {
            x.head(3 + length);
            dueAnswers("a head of " + length, x, length, want[length - 1]);
            for (int none : new int[] {-1, length, 4, LOW, HIGH}) {
                due("answer(0, " + none + ") of " + length, IOOBE, () -> x.answer(0, none));
                due("answer(1, " + none + ") of " + length, IOOBE, () -> x.answer(1, none));
            }
            due("answer(1, 0) of " + length, IOOBE, () -> x.answer(1, 0));
        }
    }

    private static void answerOfAnEmptyHead() {
        JoinedLeaves x = withRelations(1);
        fill(x, 0, 1, 0, 0);
        for (int atoms = 0; atoms < 2; atoms++) {
            for (int i : new int[] {0, -1, 1, LOW, HIGH}) {
                due("answer(0, " + i + ") of an empty head", IOOBE, () -> x.answer(0, i));
                due("answer(1, " + i + ") of an empty head", IOOBE, () -> x.answer(1, i));
            }
            x.atom(0, 0, 0, 0);
        }
    }

    private static void answerWhenThereIsNoAnswer() {
        JoinedLeaves x = withRelations(1);
        x.atom(0, 0, 0, 0);
        due("an empty head and no way", IOOBE, () -> x.answer(0, 0));
        x.head(0);
        due("a head and no way", IOOBE, () -> x.answer(0, 0));
        fill(x, 0, 9, 0, 0);
        due("a head and a way", 9, () -> x.answer(0, 0));
        x.drop(0, 9, 0, 0);
        due("a head and no way any more", IOOBE, () -> x.answer(0, 0));
    }

    private static void theLastOfSixtyFour() {
        JoinedLeaves x = eightTimesEight(false);
        due("answer(0, 0)", 0, () -> x.answer(0, 0));
        due("answer(0, 1)", 0, () -> x.answer(0, 1));
        due("answer(63, 0)", 7, () -> x.answer(63, 0));
        due("answer(63, 1)", 7, () -> x.answer(63, 1));
        due("answer(64, 0)", IOOBE, () -> x.answer(64, 0));
        due("answer(63, 2)", IOOBE, () -> x.answer(63, 2));
    }

    private static void answersInOrder() {
        JoinedLeaves x = withRelations(3);
        fill(x, 0, 15, 0, 0, 0, 15, 15, 0, 15, 0, 0, 0, 15, 8, 8, 8, 8, 7, 9, 8, 8, 7, 7, 9, 9);
        x.atom(0, 0, 1, 2);
        heads(x, 0, 1, 2);
        dueAnswers("by the first column", x, 3, "00f", "0f0", "0ff", "799", "879", "887", "888", "f00");
        x.clear();
        x.atom(0, 0, 1, 2);
        heads(x, 2, 0, 1);
        dueAnswers("by the last column", x, 3, "00f", "0f0", "788", "888", "979", "987", "f00", "f0f");
    }

    private static void answerWhenAnswersThrows() {
        JoinedLeaves ring = ring();
        ring.head(0);
        JoinedLeaves unbound = product(1);
        unbound.head(7);
        JoinedLeaves tooMany = eightTimesEight(true);
        for (int k : new int[] {0, 63, 64, 65, -1, LOW, HIGH}) {
            for (int i : new int[] {0, 1, 2, -1, LOW, HIGH}) {
                due("no tree: answer(" + k + ", " + i + ")", ISE, () -> ring.answer(k, i));
                due("unbound: answer(" + k + ", " + i + ")", IAE, () -> unbound.answer(k, i));
                due("too many: answer(" + k + ", " + i + ")", UOE, () -> tooMany.answer(k, i));
            }
        }
    }
}
