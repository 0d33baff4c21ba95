/**
 * Asks relations with questions that join several of them: whether the question's atoms can be
 * hung into a tree, which rows take part in any answer, how many ways there are, and which
 * answers, in order.
 *
 * <p>Sets of rows, variables, values and atoms are bits of an int throughout. All arrays are made
 * by the constructor, so that no later call needs room of its own.
 */
public final class JoinedLeaves {
    public static final int NONE = -1;

    private static final int MOST_RELATIONS = 6;
    private static final int MOST_COLUMNS = 3;
    private static final int MOST_ROWS = 12;
    private static final int MOST_ATOMS = 6;
    private static final int MOST_IN_HEAD = 4;
    private static final int MOST_ANSWERS = 64;
    private static final int VARIABLES = 8;
    private static final int VALUES = 16;
    private static final int VALUE_BITS = 4;

    private final Relation[] relations;
    private int relationCount;
    private final Question question;
    private final Hanging hanging;
    private final Join join;

    public JoinedLeaves() {
        relations = new Relation[MOST_RELATIONS];
        for (int i = 0; i < MOST_RELATIONS; i++) {
            relations[i] = new Relation();
        }
        question = new Question(relations[0]);
        hanging = new Hanging(question);
        join = new Join(question, hanging);
    }

    public int relation(int width) {
        if (width < 1 || width > MOST_COLUMNS || relationCount == MOST_RELATIONS) {
            return NONE;
        }
        relations[relationCount].width = width;
        relationCount++;
        return relationCount - 1;
    }

    public boolean add(int relation, int a, int b, int c) {
        return isBelow(relation, relationCount) && relations[relation].put(a, b, c);
    }

    public boolean drop(int relation, int a, int b, int c) {
        return isBelow(relation, relationCount) && relations[relation].take(a, b, c);
    }

    public int rows(int relation) {
        return isBelow(relation, relationCount) ? relations[relation].size : NONE;
    }

    public int atom(int relation, int x, int y, int z) {
        if (!isBelow(relation, relationCount) || !question.putAtom(relations[relation], x, y, z)) {
            return NONE;
        }
        hanging.hangAtoms();
        return question.atomCount - 1;
    }

    public int head(int variable) {
        return question.putInHead(variable) ? question.headSize - 1 : NONE;
    }

    public int clear() {
        int count = question.atomCount;
        question.empty();
        hanging.hangAtoms();
        return count;
    }

    public boolean tree() {
        return hanging.isTree();
    }

    public int parent(int atom) {
        return isBelow(atom, question.atomCount) ? hanging.parents[atom] : NONE;
    }

    public int turn(int atom) {
        return isBelow(atom, question.atomCount) ? hanging.turns[atom] : NONE;
    }

    public long ways() throws IllegalStateException {
        requireTree();
        return join.countWays();
    }

    public int live(int atom) throws IllegalStateException, IndexOutOfBoundsException {
        requireTree();
        if (!isBelow(atom, question.atomCount)) {
            throw new IndexOutOfBoundsException("no such atom");
        }
        return join.countLiveRows(atom);
    }

    public int answers()
            throws IllegalStateException, IllegalArgumentException, UnsupportedOperationException {
        findAnswers();
        return join.found;
    }

    public int answer(int k, int i)
            throws IllegalStateException, IllegalArgumentException, UnsupportedOperationException,
            IndexOutOfBoundsException {
        findAnswers();
        if (!isBelow(k, join.found) || !isBelow(i, question.headSize)) {
            throw new IndexOutOfBoundsException("no such answer, or no such value in it");
        }
        return join.valueInAnswer(k, i);
    }

    private void findAnswers() {
        requireTree();
        if (!question.bindsHead()) {
            throw new IllegalArgumentException("a variable of the head is in no atom");
        }
        join.search();
        if (join.found > MOST_ANSWERS) {
            throw new UnsupportedOperationException("more than 64 answers");
        }
    }

    private void requireTree() {
        if (!hanging.isTree()) {
            throw new IllegalStateException("the question is no tree");
        }
    }

    private static boolean isBelow(int number, int bound) {
        return number >= 0 && number < bound;
    }

    private static boolean isIn(int member, int set) {
        return ((set >> member) & 1) != 0;
    }

    /**
     * Rows of one width. A narrow row is filled up with its first value, as an atom is with its
     * first variable: so all have three columns, and joining never asks for the width.
     */
    private static final class Relation {
        private final int[] packedRows = new int[MOST_ROWS];
        private int width;
        private int size;

        private boolean put(int a, int b, int c) {
            int row = pack(a, b, c);
            if (row == NONE || size == MOST_ROWS || placeOf(row) != NONE) {
                return false;
            }
            packedRows[size] = row;
            size++;
            return true;
        }

        private boolean take(int a, int b, int c) {
            int place = placeOf(pack(a, b, c));
            if (place == NONE) {
                return false;
            }
            size--;
            packedRows[place] = packedRows[size];
            return true;
        }

        private int valueAt(int place, int column) {
            return (packedRows[place] >> (VALUE_BITS * column)) & (VALUES - 1);
        }

        private int pack(int a, int b, int c) {
            int second = width > 1 ? b : a;
            int third = width > 2 ? c : a;
            // Packed unchecked, a value out of range would spill over and pass for another row.
            if (!isBelow(a, VALUES) || !isBelow(second, VALUES) || !isBelow(third, VALUES)) {
                return NONE;
            }
            return a | (second << VALUE_BITS) | (third << (2 * VALUE_BITS));
        }

        private int placeOf(int row) {
            for (int place = 0; place < size; place++) {
                if (packedRows[place] == row) {
                    return place;
                }
            }
            return NONE;
        }
    }

    /** A relation with a variable for each of its columns. */
    private static final class Atom {
        private final int[] variables = new int[MOST_COLUMNS];
        private int variableSet;
        private Relation relation;

        /** Takes any relation to begin with, so that the reference is never null. */
        private Atom(Relation unused) {
            relation = unused;
        }

        private boolean bind(Relation bound, int x, int y, int z) {
            int second = bound.width > 1 ? y : x;
            int third = bound.width > 2 ? z : x;
            if (!isBelow(x, VARIABLES) || !isBelow(second, VARIABLES)
                    || !isBelow(third, VARIABLES)) {
                return false;
            }
            relation = bound;
            variables[0] = x;
            variables[1] = second;
            variables[2] = third;
            variableSet = (1 << x) | (1 << second) | (1 << third);
            return true;
        }

        /** The rows that give no variable two values where it is there more than once. */
        private int rowsAgreeingWithThemselves() {
            int set = 0;
            for (int row = 0; row < relation.size; row++) {
                if (agreesWithItself(row)) {
                    set |= 1 << row;
                }
            }
            return set;
        }

        private boolean agreesWithItself(int row) {
            for (int i = 1; i < MOST_COLUMNS; i++) {
                for (int j = 0; j < i; j++) {
                    if (variables[i] == variables[j]
                            && relation.valueAt(row, i) != relation.valueAt(row, j)) {
                        return false;
                    }
                }
            }
            return true;
        }

        /** The rows that, beside a row of another atom, give no shared variable two values. */
        private int rowsAgreeingWith(Atom other, int otherRow) {
            int set = (1 << relation.size) - 1;
            for (int column = 0; column < MOST_COLUMNS; column++) {
                int value = other.relation.valueAt(otherRow, column);
                set &= rowsAllowing(other.variables[column], value);
            }
            return set;
        }

        /** The rows that give a variable no other value than this one. */
        private int rowsAllowing(int variable, int value) {
            int set = (1 << relation.size) - 1;
            for (int column = 0; column < MOST_COLUMNS; column++) {
                for (int row = 0; row < relation.size && variables[column] == variable; row++) {
                    if (relation.valueAt(row, column) != value) {
                        set &= ~(1 << row);
                    }
                }
            }
            return set;
        }

        /** The values that the rows of a set give to a variable. */
        private int valuesOf(int variable, int rowSet) {
            int set = 0;
            for (int column = 0; column < MOST_COLUMNS; column++) {
                for (int row = 0; row < relation.size && variables[column] == variable; row++) {
                    if (isIn(row, rowSet)) {
                        set |= 1 << relation.valueAt(row, column);
                    }
                }
            }
            return set;
        }
    }

    /** The atoms and the head. */
    private static final class Question {
        private final Atom[] atoms = new Atom[MOST_ATOMS];
        private int atomCount;
        private final int[] headVariables = new int[MOST_IN_HEAD];
        private int headSize;
        private int headSet;

        private Question(Relation unused) {
            for (int i = 0; i < MOST_ATOMS; i++) {
                atoms[i] = new Atom(unused);
            }
        }

        private boolean putAtom(Relation relation, int x, int y, int z) {
            if (atomCount == MOST_ATOMS || !atoms[atomCount].bind(relation, x, y, z)) {
                return false;
            }
            atomCount++;
            return true;
        }

        private boolean putInHead(int variable) {
            if (!isBelow(variable, VARIABLES) || isIn(variable, headSet)
                    || headSize == MOST_IN_HEAD) {
                return false;
            }
            headVariables[headSize] = variable;
            headSize++;
            headSet |= 1 << variable;
            return true;
        }

        private void empty() {
            atomCount = 0;
            headSize = 0;
            headSet = 0;
        }

        /** Whether each variable of the head is in some atom. */
        private boolean bindsHead() {
            int bound = 0;
            for (int i = 0; i < atomCount; i++) {
                bound |= atoms[i].variableSet;
            }
            return (headSet & ~bound) == 0;
        }

        /** The first atom with a variable; NONE when there is none. */
        private int atomWith(int variable) {
            for (int i = 0; i < atomCount; i++) {
                if (isIn(variable, atoms[i].variableSet)) {
                    return i;
                }
            }
            return NONE;
        }
    }

    /** How the atoms hang; rows do not matter to it, so it is made anew only when atoms change. */
    private static final class Hanging {
        private final Question question;
        private final int[] parents = new int[MOST_ATOMS];
        private final int[] turns = new int[MOST_ATOMS];
        private final int[] order = new int[MOST_ATOMS];
        private int hungCount;
        private int left;

        private Hanging(Question asked) {
            question = asked;
        }

        private boolean isTree() {
            return question.atomCount - hungCount <= 1;
        }

        /** The atom that is left of a tree; NONE when there are no atoms. */
        private int root() {
            for (int atom = 0; atom < question.atomCount; atom++) {
                if (isIn(atom, left)) {
                    return atom;
                }
            }
            return NONE;
        }

        private void hangAtoms() {
            left = (1 << question.atomCount) - 1;
            hungCount = 0;
            for (int atom = 0; atom < MOST_ATOMS; atom++) {
                parents[atom] = NONE;
                turns[atom] = NONE;
            }
            for (int round = 0; round < question.atomCount; round++) {
                hangLeastEar();
            }
        }

        private void hangLeastEar() {
            for (int ear = 0; ear < question.atomCount; ear++) {
                int holder = leastHolderOf(ear);
                if (holder != NONE) {
                    parents[ear] = holder;
                    turns[ear] = hungCount;
                    order[hungCount] = ear;
                    hungCount++;
                    left &= ~(1 << ear);
                    return;
                }
            }
        }

        /** The least atom that makes this one an ear; NONE when it is no ear. */
        private int leastHolderOf(int ear) {
            if (!isIn(ear, left)) {
                return NONE;
            }
            int others = left & ~(1 << ear);
            int shared = question.atoms[ear].variableSet & variablesOf(others);
            for (int holder = 0; holder < question.atomCount; holder++) {
                if (isIn(holder, others) && (shared & ~question.atoms[holder].variableSet) == 0) {
                    return holder;
                }
            }
            return NONE;
        }

        private int variablesOf(int atomSet) {
            int set = 0;
            for (int atom = 0; atom < question.atomCount; atom++) {
                if (isIn(atom, atomSet)) {
                    set |= question.atoms[atom].variableSet;
                }
            }
            return set;
        }
    }

    /**
     * Joins the rows along a tree. A variable that two atoms share is in every atom on the path
     * between them, so it is enough to compare each atom with its parent.
     */
    private static final class Join {
        private final Question question;
        private final Hanging hanging;
        /** For a hung atom and a row of its parent: the rows of the atom that agree with it. */
        private final int[][] agreeing = new int[MOST_ATOMS][MOST_ROWS];
        /** The rows of each atom that still count when so many values of the head are chosen. */
        private final int[][] kept = new int[MOST_IN_HEAD + 1][MOST_ATOMS];
        private final long[][] weights = new long[MOST_ATOMS][MOST_ROWS];
        private final int[] packedAnswers = new int[MOST_ANSWERS];
        /** How many answers were found; the search ends at the first one too many. */
        private int found;

        private Join(Question asked, Hanging hung) {
            question = asked;
            hanging = hung;
        }

        private int countLiveRows(int atom) {
            compareRows();
            keepLiveRows(kept[0]);
            return Integer.bitCount(kept[0][atom]);
        }

        private long countWays() {
            int root = hanging.root();
            if (root == NONE) {
                return 1;
            }
            compareRows();
            startWeights();
            for (int turn = 0; turn < hanging.hungCount; turn++) {
                weighIntoParent(hanging.order[turn]);
            }
            return weightOf(root, kept[0][root]);
        }

        private void search() {
            found = 0;
            compareRows();
            keepLiveRows(kept[0]);
            // A head without variables has its answer only if some way is there to give it.
            if (hasWay(kept[0])) {
                choose(0, 0);
            }
        }

        private int valueInAnswer(int k, int i) {
            return (packedAnswers[k] >> (VALUE_BITS * (question.headSize - 1 - i))) & (VALUES - 1);
        }

        private void compareRows() {
            for (int atom = 0; atom < question.atomCount; atom++) {
                kept[0][atom] = question.atoms[atom].rowsAgreeingWithThemselves();
            }
            for (int turn = 0; turn < hanging.hungCount; turn++) {
                int child = hanging.order[turn];
                Atom parent = question.atoms[hanging.parents[child]];
                for (int row = 0; row < parent.relation.size; row++) {
                    agreeing[child][row] = question.atoms[child].rowsAgreeingWith(parent, row);
                }
            }
        }

        /**
         * Leaves of the rows of each atom those that some way uses. Children are hung before their
         * parents, so one pass up and one down settle every row.
         */
        private void keepLiveRows(int[] rowSets) {
            for (int turn = 0; turn < hanging.hungCount; turn++) {
                keepRowsOfParent(rowSets, hanging.order[turn]);
            }
            for (int turn = hanging.hungCount - 1; turn >= 0; turn--) {
                keepRowsOfChild(rowSets, hanging.order[turn]);
            }
        }

        private void keepRowsOfParent(int[] rowSets, int child) {
            int parent = hanging.parents[child];
            for (int row = 0; row < MOST_ROWS; row++) {
                if (isIn(row, rowSets[parent]) && (agreeing[child][row] & rowSets[child]) == 0) {
                    rowSets[parent] &= ~(1 << row);
                }
            }
        }

        private void keepRowsOfChild(int[] rowSets, int child) {
            int parent = hanging.parents[child];
            int wanted = 0;
            for (int row = 0; row < MOST_ROWS; row++) {
                if (isIn(row, rowSets[parent])) {
                    wanted |= agreeing[child][row];
                }
            }
            rowSets[child] &= wanted;
        }

        private boolean hasWay(int[] liveRows) {
            int root = hanging.root();
            return root == NONE || liveRows[root] != 0;
        }

        /** A row weighs the number of ways for all that was hung below its atom so far. */
        private void startWeights() {
            for (int atom = 0; atom < question.atomCount; atom++) {
                for (int row = 0; row < MOST_ROWS; row++) {
                    weights[atom][row] = 1;
                }
            }
        }

        private void weighIntoParent(int child) {
            int parent = hanging.parents[child];
            for (int row = 0; row < MOST_ROWS; row++) {
                if (isIn(row, kept[0][parent])) {
                    weights[parent][row] *= weightOf(child, agreeing[child][row] & kept[0][child]);
                }
            }
        }

        private long weightOf(int atom, int rowSet) {
            long sum = 0;
            for (int row = 0; row < MOST_ROWS; row++) {
                if (isIn(row, rowSet)) {
                    sum += weights[atom][row];
                }
            }
            return sum;
        }

        /**
         * Chooses the values of the head from this place on, the least first, so that answers
         * come in order. All rows kept are live: each value they hold leads to an answer, and the
         * search has no dead ends. It goes no deeper than the head is long.
         */
        private void choose(int place, int chosen) {
            if (place >= question.headSize) {
                storeAnswer(chosen);
                return;
            }
            int variable = question.headVariables[place];
            int values = liveValuesOf(variable, kept[place]);
            for (int value = 0; value < VALUES && found <= MOST_ANSWERS; value++) {
                if (isIn(value, values)) {
                    keepRowsWith(place, variable, value);
                    choose(place + 1, (chosen << VALUE_BITS) | value);
                }
            }
        }

        private void storeAnswer(int answer) {
            if (found < MOST_ANSWERS) {
                packedAnswers[found] = answer;
            }
            found++;
        }

        private int liveValuesOf(int variable, int[] liveRows) {
            int atom = question.atomWith(variable);
            return atom == NONE ? 0 : question.atoms[atom].valuesOf(variable, liveRows[atom]);
        }

        private void keepRowsWith(int place, int variable, int value) {
            int[] rowSets = kept[place + 1];
            for (int atom = 0; atom < question.atomCount; atom++) {
                int allowing = question.atoms[atom].rowsAllowing(variable, value);
                rowSets[atom] = kept[place][atom] & allowing;
            }
            keepLiveRows(rowSets);
        }
    }
}
