import java.util.ArrayList;
import java.util.Arrays;
import java.util.HashSet;
import java.util.List;
import java.util.Random;
import java.util.Set;
import java.util.TreeMap;
import java.util.TreeSet;
import java.util.function.Supplier;

/** Runs of calls, each answer compared with a model that takes the document word by word. */
public final class PlainModelTest {
    private static final int RUNS = 2000;
    private static final int MOST_CALLS = 512;

    public static void main(String[] args) {
        TreeMap<String, Integer> outcomes = new TreeMap<>();
        for (int seed = 0; seed < RUNS; seed++) {
            if (!new Run(seed, outcomes).isAsDue()) {
                System.exit(1);
            }
        }
        lookForOutcomes(outcomes);
        System.out.println("all answers of " + RUNS + " runs are as due");
    }

    /** Runs that never reach an exception would prove nothing of it. */
    private static void lookForOutcomes(TreeMap<String, Integer> outcomes) {
        String[] wanted = {"ways throws.IllegalStateException", "live throws.IllegalStateException",
            "live throws.IndexOutOfBoundsException", "answers throws.IllegalStateException",
            "answers throws.IllegalArgumentException", "answers throws.UnsupportedOperationException",
            "answer throws.IllegalStateException", "answer throws.IllegalArgumentException",
            "answer throws.UnsupportedOperationException", "answer throws.IndexOutOfBoundsException",
            "ways", "live", "answers", "answer"};
        for (String outcome : wanted) {
            if (outcomes.getOrDefault(outcome, 0) < 100) {
                System.out.println("the runs hardly reach: " + outcome);
                System.exit(1);
            }
        }
    }

    /** One run of calls on a new object and a new model. */
    private static final class Run {
        private final Random random;
        private final int seed;
        private final TreeMap<String, Integer> outcomes;
        private final JoinedLeaves object = new JoinedLeaves();
        private final Model model = new Model();
        private final int values;
        private final int variables;

        Run(int seed, TreeMap<String, Integer> outcomes) {
            this.seed = seed;
            this.outcomes = outcomes;
            random = new Random(seed);
            values = 2 + random.nextInt(15);
            variables = 2 + random.nextInt(7);
        }

        boolean isAsDue() {
            int calls = 40 + random.nextInt(MOST_CALLS - 39);
            for (int i = 0; i < calls; i++) {
                if (!isNextCallAsDue()) {
                    System.out.println("in run " + seed + ", call " + i);
                    return false;
                }
            }
            return true;
        }

        private boolean isNextCallAsDue() {
            int r = random.nextInt(100);
            if (r < 3) {
                int width = mostly(1 + random.nextInt(3));
                return same("relation", () -> object.relation(width), () -> model.relation(width));
            }
            if (r < 40) {
                return isChangeOfRowsAsDue(r < 30);
            }
            if (r < 50) {
                return isChangeOfQuestionAsDue(r);
            }
            return isQuestionAsDue(r);
        }

        private boolean isChangeOfRowsAsDue(boolean adds) {
            int relation = relation();
            int a = value();
            int b = value();
            int c = value();
            if (adds) {
                return same("add", () -> object.add(relation, a, b, c), () -> model.add(relation, a, b, c));
            }
            return same("drop", () -> object.drop(relation, a, b, c), () -> model.drop(relation, a, b, c));
        }

        private boolean isChangeOfQuestionAsDue(int r) {
            int relation = relation();
            int x = variable();
            int y = variable();
            int z = variable();
            int asked = random.nextInt(3) == 0 ? x : variableOfSomeAtom(x);
            if (r < 46) {
                return same("atom", () -> object.atom(relation, x, y, z), () -> model.atom(relation, x, y, z));
            }
            if (r < 49) {
                return same("head", () -> object.head(asked), () -> model.head(asked));
            }
            return same("clear", object::clear, model::clear);
        }

        private boolean isQuestionAsDue(int r) {
            int atom = mostly(random.nextInt(6));
            int relation = relation();
            int k = random.nextInt(4) == 0 ? mostly(random.nextInt(66)) : random.nextInt(5);
            int i = mostly(random.nextInt(Math.max(1, model.head.size())));
            if (r < 53) {
                return same("rows", () -> object.rows(relation), () -> model.rows(relation));
            }
            if (r < 56) {
                return same("tree", object::tree, model::tree);
            }
            if (r < 61) {
                return same("parent", () -> object.parent(atom), () -> model.parent(atom));
            }
            if (r < 66) {
                return same("turn", () -> object.turn(atom), () -> model.turn(atom));
            }
            if (r < 71) {
                return same("ways", object::ways, model::ways);
            }
            if (r < 79) {
                return same("live", () -> object.live(atom), () -> model.live(atom));
            }
            if (r < 85) {
                return same("answers", object::answers, model::answers);
            }
            return same("answer", () -> object.answer(k, i), () -> model.answer(k, i));
        }

        private boolean same(String call, Supplier<Object> got, Supplier<Object> due) {
            String gotText = CallTest.outcome(got);
            String dueText = CallTest.outcome(due);
            outcomes.merge(dueText.startsWith("throws") ? call + " " + dueText : call, 1, Integer::sum);
            if (!gotText.equals(dueText)) {
                System.out.println(call + " answered " + gotText + ", due is " + dueText);
                return false;
            }
            return true;
        }

        private int relation() {
            return mostly(random.nextInt(Math.max(1, model.relations.size())));
        }

        private int value() {
            return mostly(random.nextInt(values));
        }

        private int variable() {
            return mostly(random.nextInt(variables));
        }

        private int variableOfSomeAtom(int otherwise) {
            int count = model.atoms.size();
            return count == 0 ? otherwise : model.atoms.get(random.nextInt(count)).get(0);
        }

        /** The number, but now and then one that is likely to be out of range. */
        private int mostly(int number) {
            int[] odd = {-1, 3, 4, 6, 7, 8, 15, 16, 17, Integer.MIN_VALUE, Integer.MAX_VALUE};
            return random.nextInt(40) == 0 ? odd[random.nextInt(odd.length)] : number;
        }
    }

    private static final class Model {
        private final List<Set<List<Integer>>> relations = new ArrayList<>();
        private final List<Integer> widths = new ArrayList<>();
        private final List<Integer> atomRelations = new ArrayList<>();
        private final List<List<Integer>> atoms = new ArrayList<>();
        private final List<Integer> head = new ArrayList<>();

        private final int[] parents = new int[6];
        private final int[] turns = new int[6];
        private final Set<Integer> left = new TreeSet<>();

        private boolean isJoined = false;
        private long ways;
        private final List<Set<List<Integer>>> live = new ArrayList<>();
        private final Set<List<Integer>> answers = new TreeSet<>(PlainModelTest::compareRows);

        int relation(int width) {
            if (width < 1 || width > 3 || relations.size() == 6) {
                return -1;
            }
            relations.add(new HashSet<>());
            widths.add(width);
            return relations.size() - 1;
        }

        boolean add(int relation, int a, int b, int c) {
            if (!isIn(relation, relations.size())) {
                return false;
            }
            List<Integer> row = Arrays.asList(a, b, c).subList(0, widths.get(relation));
            Set<List<Integer>> rows = relations.get(relation);
            isJoined = false;
            return row.stream().allMatch(value -> isIn(value, 16)) && !rows.contains(row)
                    && rows.size() < 12 && rows.add(row);
        }

        boolean drop(int relation, int a, int b, int c) {
            isJoined = false;
            return isIn(relation, relations.size())
                    && relations.get(relation).remove(Arrays.asList(a, b, c).subList(0, widths.get(relation)));
        }

        int rows(int relation) {
            return isIn(relation, relations.size()) ? relations.get(relation).size() : -1;
        }

        int atom(int relation, int x, int y, int z) {
            if (!isIn(relation, relations.size()) || atoms.size() == 6) {
                return -1;
            }
            List<Integer> atom = Arrays.asList(x, y, z).subList(0, widths.get(relation));
            if (!atom.stream().allMatch(variable -> isIn(variable, 8))) {
                return -1;
            }
            isJoined = false;
            atoms.add(atom);
            atomRelations.add(relation);
            return atoms.size() - 1;
        }

        int head(int variable) {
            if (!isIn(variable, 8) || head.contains(variable) || head.size() == 4) {
                return -1;
            }
            isJoined = false;
            head.add(variable);
            return head.size() - 1;
        }

        int clear() {
            int count = atoms.size();
            isJoined = false;
            atoms.clear();
            atomRelations.clear();
            head.clear();
            return count;
        }

        boolean tree() {
            hang();
            return left.size() <= 1;
        }

        int parent(int atom) {
            hang();
            return isIn(atom, atoms.size()) ? parents[atom] : -1;
        }

        int turn(int atom) {
            hang();
            return isIn(atom, atoms.size()) ? turns[atom] : -1;
        }

        long ways() {
            joinTree();
            return ways;
        }

        int live(int atom) {
            joinTree();
            if (!isIn(atom, atoms.size())) {
                throw new IndexOutOfBoundsException();
            }
            return live.get(atom).size();
        }

        int answers() {
            joinTree();
            for (int variable : head) {
                if (atoms.stream().noneMatch(atom -> atom.contains(variable))) {
                    throw new IllegalArgumentException();
                }
            }
            if (answers.size() > 64) {
                throw new UnsupportedOperationException();
            }
            return answers.size();
        }

        int answer(int k, int i) {
            if (!isIn(k, answers()) || !isIn(i, head.size())) {
                throw new IndexOutOfBoundsException();
            }
            return new ArrayList<>(answers).get(k).get(i);
        }

        private static boolean isIn(int number, int bound) {
            return 0 <= number && number < bound;
        }

        private void hang() {
            left.clear();
            Arrays.fill(parents, -1);
            Arrays.fill(turns, -1);
            for (int atom = 0; atom < atoms.size(); atom++) {
                left.add(atom);
            }
            int turn = 0;
            while (hangOne(turn)) {
                turn++;
            }
        }

        private boolean hangOne(int turn) {
            for (int e : left) {
                for (int w : left) {
                    if (e != w && isEarBy(e, w)) {
                        parents[e] = w;
                        turns[e] = turn;
                        left.remove(e);
                        return true;
                    }
                }
            }
            return false;
        }

        private boolean isEarBy(int e, int w) {
            for (int variable : atoms.get(e)) {
                for (int other : left) {
                    if (other != e && atoms.get(other).contains(variable) && !atoms.get(w).contains(variable)) {
                        return false;
                    }
                }
            }
            return true;
        }

        private void joinTree() {
            if (!tree()) {
                throw new IllegalStateException();
            }
            if (isJoined) {
                return;
            }
            isJoined = true;
            ways = 0;
            answers.clear();
            live.clear();
            for (int i = 0; i < atoms.size(); i++) {
                live.add(new HashSet<>());
            }
            tryAtom(0, new Integer[8], new ArrayList<>());
        }

        /** Gives every row to the atom in turn, and goes on to the next one when it fits. */
        private void tryAtom(int atom, Integer[] way, List<List<Integer>> chosen) {
            if (atom == atoms.size()) {
                countWay(way, chosen);
                return;
            }
            for (List<Integer> row : relations.get(atomRelations.get(atom))) {
                Integer[] longer = way.clone();
                boolean fits = true;
                for (int i = 0; i < row.size(); i++) {
                    int variable = atoms.get(atom).get(i);
                    fits &= longer[variable] == null || longer[variable].equals(row.get(i));
                    longer[variable] = row.get(i);
                }
                if (fits) {
                    chosen.add(row);
                    tryAtom(atom + 1, longer, chosen);
                    chosen.remove(chosen.size() - 1);
                }
            }
        }

        private void countWay(Integer[] way, List<List<Integer>> chosen) {
            ways++;
            for (int i = 0; i < chosen.size(); i++) {
                live.get(i).add(chosen.get(i));
            }
            List<Integer> answer = new ArrayList<>();
            for (int variable : head) {
                answer.add(way[variable] == null ? -1 : way[variable]);
            }
            answers.add(answer);
        }
    }

    private static int compareRows(List<Integer> one, List<Integer> other) {
        for (int i = 0; i < one.size(); i++) {
            if (!one.get(i).equals(other.get(i))) {
                return Integer.compare(one.get(i), other.get(i));
            }
        }
        return 0;
    }
}
