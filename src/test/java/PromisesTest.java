/** Each promise by hand, with ordinary inputs and a few wrong ones among them. */
public final class PromisesTest extends CallTest {
    public static void main(String[] args) {
        relation();
        add();
        drop();
        rows();
        atom();
        head();
        clear();
        treeAndParentAndTurn();
        hangingTakesTheLeastEarAndTheLeastHolder();
        hangingOfRepeatedAndLonelyAtoms();
        ways();
        repeatedVariables();
        repeatedVariablesBelowTheRoot();
        live();
        liveFarBelowTheRoot();
        answers();
        answer();
        answerOrderFollowsTheHead();
        answersOfManyWays();
        joinsWhereAtom0IsNotHungFirst();
        objectsAreApart();
        end("all promises hold");
    }

    private static void relation() {
        JoinedLeaves x = new JoinedLeaves();
        for (int width : new int[] {0, -1, 4, LOW, HIGH}) {
            due("relation(" + width + ")", -1, () -> x.relation(width));
        }
        for (int i = 0; i < 6; i++) {
            int number = i;
            due("relation " + i, i, () -> x.relation(number % 3 + 1));
            due("rows of a new relation", 0, () -> x.rows(number));
            due("rows of the next one", -1, () -> x.rows(number + 1));
        }
        due("the seventh relation", -1, () -> x.relation(1));
        due("rows(6)", -1, () -> x.rows(6));
        due("a relation of width 1", true, () -> x.add(3, 1, 99, 99));
        due("a relation of width 2", false, () -> x.add(4, 1, 99, 1));
        due("a relation of width 2 again", true, () -> x.add(4, 1, 1, 99));
        due("a relation of width 3", false, () -> x.add(5, 1, 1, 99));
    }

    private static void add() {
        JoinedLeaves x = withRelations(1, 2, 3);
        for (int none : new int[] {-1, 3, 6, LOW, HIGH}) {
            due("add to " + none, false, () -> x.add(none, 0, 0, 0));
        }
        for (int off : new int[] {-1, 16, 17, 256, LOW, HIGH}) {
            due("a " + off, false, () -> x.add(0, off, 0, 0));
            due("a " + off, false, () -> x.add(2, off, 0, 0));
            due("b " + off, false, () -> x.add(1, 0, off, 0));
            due("b " + off, false, () -> x.add(2, 0, off, 0));
            due("c " + off, false, () -> x.add(2, 0, 0, off));
        }
        due("rows after refusals", "000", () -> "" + x.rows(0) + x.rows(1) + x.rows(2));
        due("width 1", true, () -> x.add(0, 5, LOW, HIGH));
        due("width 1, the same row", false, () -> x.add(0, 5, 1, 2));
        due("width 2", true, () -> x.add(1, 5, 6, -1));
        due("width 2, the same row", false, () -> x.add(1, 5, 6, 7));
        due("width 2, the other way round", true, () -> x.add(1, 6, 5, 7));
        due("width 3", true, () -> x.add(2, 0, 15, 0));
        due("width 3, the same row", false, () -> x.add(2, 0, 15, 0));
        due("width 3, last value differs", true, () -> x.add(2, 0, 15, 15));
        due("width 3, first value differs", true, () -> x.add(2, 15, 15, 0));
        due("rows", "123", () -> "" + x.rows(0) + x.rows(1) + x.rows(2));
    }

    private static void drop() {
        JoinedLeaves x = withRelations(1, 2, 3);
        fill(x, 0, 0, 0, 0, 1, 0, 0, 15, 0, 0);
        fill(x, 1, 1, 0, 0, 0, 1, 0, 1, 1, 0);
        fill(x, 2, 1, 0, 0, 0, 1, 0, 0, 0, 1);
        for (int none : new int[] {-1, 3, LOW, HIGH}) {
            due("drop from " + none, false, () -> x.drop(none, 0, 0, 0));
        }
        // Each of these would be a row of the relation, were a value out of range carried over.
        due("drop 16, 0", false, () -> x.drop(1, 16, 0, 0));
        due("drop 0, 16", false, () -> x.drop(1, 0, 16, 0));
        due("drop 0, 16, 0", false, () -> x.drop(2, 0, 16, 0));
        due("drop 0, 0, 16", false, () -> x.drop(2, 0, 0, 16));
        due("drop 17, 0, 0", false, () -> x.drop(2, 17, 0, 0));
        due("drop 256, 0, 0", false, () -> x.drop(2, 256, 0, 0));
        due("drop -1", false, () -> x.drop(0, -1, -1, -1));
        due("drop a row that is not there", false, () -> x.drop(0, 2, 0, 0));
        due("rows", "333", () -> "" + x.rows(0) + x.rows(1) + x.rows(2));
        due("drop the first one", true, () -> x.drop(0, 0, 99, -99));
        due("drop it again", false, () -> x.drop(0, 0, 0, 0));
        due("drop the last one", true, () -> x.drop(0, 15, 0, 0));
        due("drop the only one", true, () -> x.drop(0, 1, 0, 0));
        due("drop 0, 1", true, () -> x.drop(1, 0, 1, 99));
        due("drop 1, 0 of width 2", true, () -> x.drop(1, 1, 0, 99));
        due("drop 0, 0, 1", true, () -> x.drop(2, 0, 0, 1));
        due("rows", "012", () -> "" + x.rows(0) + x.rows(1) + x.rows(2));
        due("add a dropped row", true, () -> x.add(2, 0, 0, 1));
        due("a row that stayed", false, () -> x.add(1, 1, 1, 0));
    }

    private static void rows() {
        JoinedLeaves x = withRelations(2);
        due("rows of an empty one", 0, () -> x.rows(0));
        fill(x, 0, 1, 2, 0, 2, 1, 0);
        due("rows", 2, () -> x.rows(0));
        x.drop(0, 1, 2, 0);
        due("rows after a drop", 1, () -> x.rows(0));
        for (int none : new int[] {-1, 1, 6, LOW, HIGH}) {
            due("rows(" + none + ")", -1, () -> x.rows(none));
        }
    }

    private static void atom() {
        JoinedLeaves x = withRelations(1, 2, 3);
        for (int none : new int[] {-1, 3, LOW, HIGH}) {
            due("atom of " + none, -1, () -> x.atom(none, 0, 0, 0));
        }
        for (int off : new int[] {-1, 8, 32, LOW, HIGH}) {
            due("x " + off, -1, () -> x.atom(0, off, 0, 0));
            due("y " + off, -1, () -> x.atom(1, 0, off, 0));
            due("y " + off, -1, () -> x.atom(2, 0, off, 0));
            due("z " + off, -1, () -> x.atom(2, 0, 0, off));
        }
        due("parent(0) after refusals", -1, () -> x.parent(0));
        due("width 1", 0, () -> x.atom(0, 7, LOW, HIGH));
        due("width 2", 1, () -> x.atom(1, 7, 0, -1));
        due("width 3", 2, () -> x.atom(2, 7, 7, 7));
        for (int i = 3; i < 6; i++) {
            due("atom " + i, i, () -> x.atom(0, 0, 0, 0));
        }
        due("the seventh atom", -1, () -> x.atom(0, 0, 0, 0));
        due("clear()", 6, x::clear);
        due("atom after clear()", 0, () -> x.atom(0, 0, 0, 0));
    }

    private static void head() {
        JoinedLeaves x = new JoinedLeaves();
        for (int off : new int[] {-1, 8, 32, LOW, HIGH}) {
            due("head(" + off + ")", -1, () -> x.head(off));
        }
        due("head(7)", 0, () -> x.head(7));
        due("head(7) again", -1, () -> x.head(7));
        due("head(0)", 1, () -> x.head(0));
        due("head(3)", 2, () -> x.head(3));
        due("head(0) again", -1, () -> x.head(0));
        due("head(1)", 3, () -> x.head(1));
        due("the fifth", -1, () -> x.head(2));
        due("clear()", 0, x::clear);
        due("head(7) after clear()", 0, () -> x.head(7));
        due("head(2) after clear()", 1, () -> x.head(2));
    }

    private static void clear() {
        JoinedLeaves x = withRelations(2);
        fill(x, 0, 1, 2, 0);
        x.atom(0, 0, 1, 0);
        x.atom(0, 1, 2, 0);
        x.atom(0, 2, 0, 0);
        x.head(0);
        due("no tree", false, x::tree);
        due("clear()", 3, x::clear);
        due("clear() again", 0, x::clear);
        due("tree()", true, x::tree);
        due("parent(0)", -1, () -> x.parent(0));
        due("turn(0)", -1, () -> x.turn(0));
        due("ways()", 1L, x::ways);
        due("live(0)", IOOBE, () -> x.live(0));
        due("answers()", 1, x::answers);
        due("relations stay", 1, () -> x.rows(0));
        due("relations stay", 1, () -> x.relation(1));
        due("a new atom", 0, () -> x.atom(0, 3, 4, 0));
        heads(x, 4);
        dueAnswers("after clear()", x, 1, "2");
    }

    private static void treeAndParentAndTurn() {
        JoinedLeaves x = withRelations(2);
        x.atom(0, 0, 1, 0);
        dueHanging("one atom", x, true, new int[] {-1}, new int[] {-1});
        x.atom(0, 1, 2, 0);
        dueHanging("two atoms", x, true, new int[] {1, -1}, new int[] {0, -1});
        x.atom(0, 2, 3, 0);
        x.atom(0, 3, 4, 0);
        dueHanging("a path", x, true, new int[] {1, 2, 3, -1}, new int[] {0, 1, 2, -1});
        for (int none : new int[] {-1, 4, 5, 6, 32, LOW, HIGH}) {
            due("parent(" + none + ")", -1, () -> x.parent(none));
            due("turn(" + none + ")", -1, () -> x.turn(none));
        }
    }

    private static void hangingTakesTheLeastEarAndTheLeastHolder() {
        JoinedLeaves star = withRelations(2, 3);
        star.atom(1, 0, 1, 2);
        star.atom(0, 0, 5, 0);
        star.atom(0, 1, 6, 0);
        star.atom(0, 2, 7, 0);
        // The middle becomes an ear once only one of its neighbours is left.
        dueHanging("a star", star, true, new int[] {3, 0, 0, -1}, new int[] {2, 0, 1, -1});

        JoinedLeaves same = withRelations(2);
        same.atom(0, 3, 4, 0);
        same.atom(0, 5, 6, 0);
        same.atom(0, 4, 3, 0);
        same.atom(0, 3, 4, 0);
        dueHanging("same variables", same, true, new int[] {2, 2, 3, -1}, new int[] {0, 1, 2, -1});
    }

    private static void hangingOfRepeatedAndLonelyAtoms() {
        JoinedLeaves x = withRelations(1, 2);
        x.atom(0, 0, 1, 1);
        x.atom(0, 1, 0, 0);
        x.atom(1, 2, 2, 0);
        // The second and third variable of a narrow relation are not the atom's.
        dueHanging("nothing shared", x, true, new int[] {1, 2, -1}, new int[] {0, 1, -1});
        x.atom(0, 0, 0, 0);
        dueHanging("one more", x, true, new int[] {3, 2, 3, -1}, new int[] {0, 1, 2, -1});
    }

    private static void ways() {
        JoinedLeaves x = withRelations(2, 1);
        fill(x, 0, 1, 2, 0, 1, 3, 0, 2, 3, 0, 3, 3, 0);
        x.atom(0, 0, 1, 0);
        due("one atom", 4L, x::ways);
        x.atom(0, 1, 2, 0);
        due("two steps", 4L, x::ways);
        x.atom(0, 1, 3, 0);
        due("a fork", 4L, x::ways);
        fill(x, 0, 3, 4, 0);
        due("a fork with more", 13L, x::ways);
        x.atom(1, 5, 0, 0);
        due("an empty relation", 0L, x::ways);
        fill(x, 1, 9, 0, 0, 10, 0, 0);
        due("nothing shared", 26L, x::ways);
        x.drop(0, 3, 3, 0);
        due("after a drop", 6L, x::ways);
        x.clear();
        due("no atoms", 1L, x::ways);
    }

    private static void repeatedVariables() {
        JoinedLeaves x = withRelations(3);
        fill(x, 0, 1, 1, 1, 1, 1, 2, 1, 2, 1, 2, 1, 1, 1, 2, 3);
        int[][] patterns = {{0, 0, 0}, {0, 0, 1}, {0, 1, 0}, {1, 0, 0}, {0, 1, 2}};
        int[] want = {1, 2, 2, 2, 5};
        for (int i = 0; i < patterns.length; i++) {
            int[] pattern = patterns[i];
            x.clear();
            x.atom(0, pattern[0], pattern[1], pattern[2]);
            due("ways with repeats", (long) want[i], x::ways);
            due("live with repeats", want[i], () -> x.live(0));
            heads(x, 0);
            due("answers with repeats", i == 4 ? 2 : 1, x::answers);
        }
    }

    private static void repeatedVariablesBelowTheRoot() {
        JoinedLeaves x = withRelations(3, 1);
        fill(x, 0, 1, 1, 5, 1, 2, 5, 3, 3, 5, 4, 4, 6);
        fill(x, 1, 5, 0, 0);
        x.atom(0, 0, 0, 1);
        x.atom(1, 1, 0, 0);
        due("hung with repeats", 1, () -> x.parent(0));
        due("ways, hung with repeats", 2L, x::ways);
        due("live, hung with repeats", 2, () -> x.live(0));
        heads(x, 0, 1);
        dueAnswers("hung with repeats", x, 2, "15", "35");
    }

    private static void live() {
        JoinedLeaves x = withRelations(2, 1);
        fill(x, 0, 1, 2, 0, 2, 3, 0, 3, 4, 0, 7, 7, 0);
        x.atom(0, 0, 1, 0);
        x.atom(0, 1, 2, 0);
        due("live(0)", 3, () -> x.live(0));
        due("live(1)", 3, () -> x.live(1));
        for (int none : new int[] {-1, 2, 5, 6, LOW, HIGH}) {
            due("live(" + none + ")", IOOBE, () -> x.live(none));
        }
        x.atom(1, 4, 0, 0);
        due("live(0) beside an empty one", 0, () -> x.live(0));
        due("live(2) of an empty one", 0, () -> x.live(2));
        fill(x, 1, 3, 0, 0, 4, 0, 0);
        due("live(0) beside a full one", 3, () -> x.live(0));
        due("live(2)", 2, () -> x.live(2));
        x.atom(0, 6, 6, 0);
        due("live(3)", 1, () -> x.live(3));
        x.drop(0, 7, 7, 0);
        due("live(3) without its row", 0, () -> x.live(3));
        due("live(2) without a way", 0, () -> x.live(2));
    }

    private static void liveFarBelowTheRoot() {
        JoinedLeaves x = withRelations(2, 1);
        fill(x, 0, 0, 1, 0, 1, 2, 0, 2, 3, 0, 3, 4, 0, 4, 5, 0, 5, 6, 0);
        for (int i = 0; i < 5; i++) {
            x.atom(0, i, i + 1, 0);
        }
        fill(x, 1, 6, 0, 0);
        for (int i = 0; i < 5; i++) {
            int atom = i;
            due("a path of five, live(" + i + ")", 2, () -> x.live(atom));
        }
        x.atom(1, 5, 0, 0);
        for (int i = 0; i < 6; i++) {
            int atom = i;
            due("its end given, live(" + i + ")", 1, () -> x.live(atom));
        }
    }

    private static void answers() {
        JoinedLeaves x = withRelations(2);
        fill(x, 0, 1, 2, 0, 1, 3, 0, 2, 3, 0);
        x.atom(0, 0, 1, 0);
        heads(x, 0);
        due("each row is one answer", 2, x::answers);
        heads(x, 1);
        due("both columns", 3, x::answers);
        x.atom(0, 1, 2, 0);
        due("joined", 1, x::answers);
        heads(x, 5);
        due("a variable in no atom", IAE, x::answers);
        due("a variable in no atom", IAE, () -> x.answer(0, 0));
        x.drop(0, 2, 3, 0);
        due("a variable in no atom, and no way", IAE, x::answers);
        x.atom(0, 5, 6, 0);
        due("no way", 0, x::answers);
        due("no way", IOOBE, () -> x.answer(0, 0));
    }

    private static void answer() {
        JoinedLeaves x = withRelations(2, 1);
        fill(x, 0, 15, 0, 0, 2, 9, 0, 2, 3, 0, 0, 15, 0);
        x.atom(0, 0, 1, 0);
        heads(x, 0, 1);
        dueAnswers("in order", x, 2, "0f", "23", "29", "f0");
        for (int none : new int[] {-1, 4, 64, LOW, HIGH}) {
            due("answer(" + none + ", 0)", IOOBE, () -> x.answer(none, 0));
        }
        for (int none : new int[] {-1, 2, 4, LOW, HIGH}) {
            due("answer(0, " + none + ")", IOOBE, () -> x.answer(0, none));
        }
        x.add(0, 0, 0, 0);
        dueAnswers("a new row first", x, 2, "00", "0f", "23", "29", "f0");
        x.drop(0, 2, 3, 0);
        dueAnswers("a row less", x, 2, "00", "0f", "29", "f0");
        heads(x, 2);
        x.atom(1, 2, 0, 0);
        due("no way", 0, x::answers);
        fill(x, 1, 7, 0, 0);
        dueAnswers("a value more", x, 3, "007", "0f7", "297", "f07");
    }

    private static void answerOrderFollowsTheHead() {
        JoinedLeaves x = withRelations(3, 1);
        fill(x, 0, 1, 8, 3, 2, 7, 3, 3, 7, 1, 1, 7, 9);
        fill(x, 1, 4, 0, 0, 5, 0, 0);
        x.atom(0, 6, 1, 3);
        x.atom(1, 7, 0, 0);
        heads(x, 1);
        dueAnswers("one of the head", x, 1, "7", "8");
        heads(x, 3);
        dueAnswers("two of the head", x, 2, "71", "73", "79", "83");
        heads(x, 7);
        dueAnswers("three of the head", x, 3, "714", "715", "734", "735", "794", "795", "834", "835");
        heads(x, 6);
        dueAnswers("four of the head", x, 4,
                "7143", "7153", "7342", "7352", "7941", "7951", "8341", "8351");
    }

    private static void answersOfManyWays() {
        JoinedLeaves x = withRelations(1, 2);
        count(x, 0, 12);
        fill(x, 1, 3, 1, 0, 3, 2, 0, 1, 2, 0);
        for (int i = 0; i < 5; i++) {
            x.atom(0, i, 0, 0);
        }
        x.atom(1, 5, 0, 0);
        due("many ways", 3L * 12 * 12 * 12 * 12, x::ways);
        heads(x, 5);
        dueAnswers("few answers", x, 1, "1", "3");
    }

    private static void joinsWhereAtom0IsNotHungFirst() {
        JoinedLeaves x = withRelations(2, 3);
        fill(x, 0, 1, 2, 0, 2, 3, 0, 3, 4, 0, 3, 1, 0, 5, 5, 0);
        x.atom(0, 1, 2, 0);
        x.atom(0, 0, 1, 0);
        x.atom(0, 2, 3, 0);
        dueHanging("the middle first", x, true, new int[] {2, 0, -1}, new int[] {1, 0, -1});
        due("three steps, ways()", 5L, x::ways);
        due("three steps, live", "445", () -> "" + x.live(0) + x.live(1) + x.live(2));
        heads(x, 0, 3);
        dueAnswers("three steps", x, 2, "11", "14", "22", "33", "55");
        x.clear();
        fill(x, 1, 1, 2, 3, 3, 3, 5, 4, 5, 5);
        x.atom(1, 0, 1, 2);
        x.atom(0, 0, 5, 0);
        x.atom(0, 1, 6, 0);
        x.atom(0, 2, 7, 0);
        dueHanging("a star", x, true, new int[] {3, 0, 0, -1}, new int[] {2, 0, 1, -1});
        due("a star, ways()", 6L, x::ways);
        due("a star, live", "2333", () -> "" + x.live(0) + x.live(1) + x.live(2) + x.live(3));
        heads(x, 7, 5);
        dueAnswers("a star", x, 2, "12", "42", "51", "54");
    }

    private static void objectsAreApart() {
        JoinedLeaves x = withRelations(1);
        JoinedLeaves y = withRelations(1);
        count(x, 0, 3);
        x.atom(0, 0, 0, 0);
        x.head(0);
        due("rows of the other", 0, () -> y.rows(0));
        due("atoms of the other", IOOBE, () -> y.live(0));
        due("head of the other", 0, () -> y.head(0));
        due("answers of the one", 3, x::answers);
    }
}
