import java.util.ArrayList;
import java.util.HashMap;
import java.util.List;
import java.util.Map;
import java.util.TreeSet;

/**
 * The document's words taken as they stand, with the Java library: terms are trees, and a choice
 * is judged by replacing the variables and comparing the terms that come out.
 */
final class PlainModel {
    interface Term { }

    record Atom(int k) implements Term { }

    record Variable(int v) implements Term { }

    record Pair(Term a, Term b) implements Term { }

    record Couple(Term left, Term right) { }

    record Goal(int table, Term x, Term y) { }

    record Solution(List<Integer> rows, Map<Integer, Term> values) { }

    private final int variables;
    private final List<Term> cells = new ArrayList<>();
    private final List<List<Couple>> tables = new ArrayList<>();
    private final List<Goal> goals = new ArrayList<>();
    private final TreeSet<Integer> frozenOn = new TreeSet<>();
    private final List<Couple> equations = new ArrayList<>();
    private final List<Couple> disequalities = new ArrayList<>();
    private List<Solution> found = null;

    PlainModel(int variables) {
        this.variables = Math.min(6, Math.max(1, variables));
        for (int table = 0; table < 4; table++) {
            tables.add(new ArrayList<>());
        }
    }

    int atom(int k) {
        if (cells.size() == 48) return FreezeDif.FULL;
        if (k < 0 || k > 15) return FreezeDif.BAD;
        cells.add(new Atom(k));
        return cells.size() - 1;
    }

    int variable(int v) {
        if (cells.size() == 48) return FreezeDif.FULL;
        if (!isVariable(v)) return FreezeDif.BAD;
        cells.add(new Variable(v));
        return cells.size() - 1;
    }

    int pair(int a, int b) {
        if (cells.size() == 48) return FreezeDif.FULL;
        if (noCell(a) || noCell(b)) return FreezeDif.BAD;
        Term made = new Pair(cells.get(a), cells.get(b));
        if (size(made) > 13) return FreezeDif.BAD;
        cells.add(made);
        return cells.size() - 1;
    }

    int addRow(int table, int left, int right) {
        if (noTable(table) || noCell(left) || noCell(right)) return FreezeDif.BAD;
        Couple row = new Couple(cells.get(left), cells.get(right));
        if (!occurring(row.left).isEmpty() || !occurring(row.right).isEmpty()) return FreezeDif.BAD;
        List<Couple> rows = tables.get(table);
        if (rows.size() == 6) return FreezeDif.FULL;
        if (rows.contains(row)) return FreezeDif.BAD;
        rows.add(row);
        found = null;
        return rows.size() - 1;
    }

    int goal(int table, int x, int y) {
        if (noTable(table) || noCell(x) || noCell(y)) return FreezeDif.BAD;
        if (goals.size() == 4) return FreezeDif.FULL;
        goals.add(new Goal(table, cells.get(x), cells.get(y)));
        found = null;
        return goals.size() - 1;
    }

    int freeze(int v, int table, int x, int y) {
        if (!isVariable(v)) return FreezeDif.BAD;
        int answer = goal(table, x, y);
        if (answer >= 0) frozenOn.add(v);
        return answer;
    }

    int equal(int x, int y) {
        return addCouple(equations, 4, x, y);
    }

    int differ(int x, int y) {
        return addCouple(disequalities, 6, x, y);
    }

    int solve() {
        if (found != null) return found.size();
        TreeSet<Integer> needed = new TreeSet<>(frozenOn);
        for (Couple c : equations) collect(c, needed);
        for (Couple c : disequalities) collect(c, needed);
        if (!inGoals().containsAll(needed)) return FreezeDif.LOOSE;
        found = new ArrayList<>();
        choose(new ArrayList<>());
        return found.size();
    }

    int solutions() {
        return found == null ? FreezeDif.UNSOLVED : found.size();
    }

    int rowOf(int k, int goal) {
        if (found == null) return FreezeDif.UNSOLVED;
        if (noSolution(k) || goal < 0 || goal >= goals.size()) return FreezeDif.BAD;
        return found.get(k).rows.get(goal);
    }

    long valueOf(int k, int v) {
        if (found == null) return FreezeDif.UNSOLVED;
        if (noSolution(k) || !isVariable(v) || !inGoals().contains(v)) return FreezeDif.BAD;
        return written(found.get(k).values.get(v), 0);
    }

    boolean alike(int j, int k, int mask) {
        if (found == null || noSolution(j) || noSolution(k)) return false;
        for (int v : inGoals()) {
            Term inJ = found.get(j).values.get(v);
            if ((mask >>> v) % 2 != 0 && !inJ.equals(found.get(k).values.get(v))) return false;
        }
        return true;
    }

    int forget() {
        int had = goals.size();
        goals.clear();
        frozenOn.clear();
        equations.clear();
        disequalities.clear();
        found = null;
        return had;
    }

    int clear() {
        int had = cells.size();
        forget();
        cells.clear();
        for (List<Couple> rows : tables) rows.clear();
        return had;
    }

    int cellCount() {
        return cells.size();
    }

    boolean isGround(int cell) {
        return !noCell(cell) && occurring(cells.get(cell)).isEmpty();
    }

    private boolean isVariable(int v) {
        return 0 <= v && v < variables;
    }

    private boolean noCell(int cell) {
        return cell < 0 || cell >= cells.size();
    }

    private boolean noTable(int table) {
        return table < 0 || table > 3;
    }

    private boolean noSolution(int k) {
        return k < 0 || k >= found.size();
    }

    private int addCouple(List<Couple> couples, int most, int x, int y) {
        if (noCell(x) || noCell(y)) return FreezeDif.BAD;
        if (couples.size() == most) return FreezeDif.FULL;
        couples.add(new Couple(cells.get(x), cells.get(y)));
        found = null;
        return couples.size();
    }

    private static int size(Term t) {
        return t instanceof Pair p ? 1 + size(p.a) + size(p.b) : 1;
    }

    private static TreeSet<Integer> occurring(Term t) {
        TreeSet<Integer> set = new TreeSet<>();
        if (t instanceof Variable v) set.add(v.v);
        if (t instanceof Pair p) {
            set.addAll(occurring(p.a));
            set.addAll(occurring(p.b));
        }
        return set;
    }

    private static void collect(Couple c, TreeSet<Integer> set) {
        set.addAll(occurring(c.left));
        set.addAll(occurring(c.right));
    }

    private TreeSet<Integer> inGoals() {
        TreeSet<Integer> set = new TreeSet<>();
        for (Goal g : goals) collect(new Couple(g.x, g.y), set);
        return set;
    }

    private void choose(List<Integer> rows) {
        if (rows.size() == goals.size()) {
            judge(rows);
            return;
        }
        int choices = tables.get(goals.get(rows.size()).table).size();
        for (int row = 0; row < choices; row++) {
            List<Integer> longer = new ArrayList<>(rows);
            longer.add(row);
            choose(longer);
        }
    }

    private void judge(List<Integer> rows) {
        Map<Integer, Term> values = new HashMap<>();
        for (int g = 0; g < rows.size(); g++) {
            Couple row = row(g, rows);
            guess(goals.get(g).x, row.left, values);
            guess(goals.get(g).y, row.right, values);
        }
        if (holds(rows, values)) found.add(new Solution(rows, values));
    }

    private Couple row(int g, List<Integer> rows) {
        return tables.get(goals.get(g).table).get(rows.get(g));
    }

    /** Any assignment that works must give a variable the part of the row that it stands at. */
    private static void guess(Term t, Term row, Map<Integer, Term> values) {
        if (t instanceof Variable v) values.put(v.v, row);
        if (t instanceof Pair p && row instanceof Pair r) {
            guess(p.a, r.a, values);
            guess(p.b, r.b, values);
        }
    }

    private boolean holds(List<Integer> rows, Map<Integer, Term> values) {
        for (int g = 0; g < rows.size(); g++) {
            Couple row = row(g, rows);
            if (!replaced(goals.get(g).x, values).equals(row.left)) return false;
            if (!replaced(goals.get(g).y, values).equals(row.right)) return false;
        }
        for (Couple c : equations) {
            if (!replaced(c.left, values).equals(replaced(c.right, values))) return false;
        }
        for (Couple c : disequalities) {
            if (replaced(c.left, values).equals(replaced(c.right, values))) return false;
        }
        return true;
    }

    private static Term replaced(Term t, Map<Integer, Term> values) {
        if (t instanceof Variable v) return values.getOrDefault(v.v, t);
        if (t instanceof Pair p) return new Pair(replaced(p.a, values), replaced(p.b, values));
        return t;
    }

    private static long written(Term t, long number) {
        if (t instanceof Pair p) return written(p.b, written(p.a, 18 * number + 17));
        return 18 * number + ((Atom) t).k + 1;
    }
}
