import java.util.Random;

/** Long mixed runs of calls, each answer compared with the plain model's. The seeds are fixed. */
public final class ModelTest {
    private static final int RUNS = 3000;
    private static final int CALLS = 512;
    private static final int ENOUGH = 500;
    private static final int[] EDGES = {-1, 47, 48, Integer.MIN_VALUE, Integer.MAX_VALUE};

    // How many queries had over 9 solutions, had 1 to 9, had none, were loose.
    private static final int[] seen = new int[4];

    private final int seed;
    private final Random random;
    private final int variables;
    private final int atoms;
    private final FreezeDif x;
    private final PlainModel model;
    private int calls = 0;

    private ModelTest(int seed) {
        this.seed = seed;
        random = new Random(seed);
        int given = random.nextInt(9) - 1;
        variables = Math.min(6, Math.max(1, given));
        atoms = random.nextInt(4) == 0 ? 16 : 1 + random.nextInt(3);
        x = new FreezeDif(given);
        model = new PlainModel(given);
    }

    public static void main(String[] args) {
        for (int seed = 1; seed <= RUNS && Due.wrong() < 20; seed++) {
            ModelTest run = new ModelTest(seed);
            for (int i = 0; i < CALLS; i++) {
                run.step();
            }
        }
        System.out.println("queries with over 9 solutions " + seen[0] + ", with 1 to 9 " + seen[1]
            + ", with none " + seen[2] + ", loose " + seen[3]);
        for (int kind = 0; kind < 4; kind++) {
            Due.due("enough queries of kind " + kind, seen[kind] >= ENOUGH, true);
        }
        Due.finish();
    }

    private void due(String call, long got, long want) {
        Due.due("run " + seed + ", call " + calls + ", " + call, got, want);
    }

    private void step() {
        calls++;
        int die = random.nextInt(100);
        if (model.cellCount() < variables) {
            // The first cells are the variables, so that goals can be made to hold them often.
            int v = model.cellCount();
            due("variable(" + v + ")", x.variable(v), model.variable(v));
        } else if (die < (model.cellCount() < 20 ? 30 : 4)) {
            makeCell();
        } else if (die < 45) {
            addToTables();
        } else if (die < 70) {
            addToQuery();
        } else if (die < 80) {
            solve();
        } else if (die < 95) {
            ask();
        } else if (die < 99 || random.nextInt(4) != 0) {
            due("forget()", x.forget(), model.forget());
        } else {
            due("clear()", x.clear(), model.clear());
        }
    }

    private void makeCell() {
        int k = number(atoms, 16);
        int v = number(variables, 6);
        int a = cell();
        int b = cell();
        switch (random.nextInt(5)) {
            case 0, 1 -> due("atom(" + k + ")", x.atom(k), model.atom(k));
            case 2 -> due("variable(" + v + ")", x.variable(v), model.variable(v));
            default -> due("pair(" + a + ", " + b + ")", x.pair(a, b), model.pair(a, b));
        }
    }

    private void addToTables() {
        int table = number(2, 4);
        int left = mostlyGround();
        int right = mostlyGround();
        String call = "addRow(" + table + ", " + left + ", " + right + ")";
        due(call, x.addRow(table, left, right), model.addRow(table, left, right));
    }

    private void addToQuery() {
        int table = number(2, 4);
        int v = number(variables, 6);
        int s = random.nextInt(3) != 0 ? number(variables, 6) : cell();
        int t = random.nextInt(3) != 0 ? number(variables, 6) : cell();
        String terms = s + ", " + t + ")";
        switch (random.nextInt(9)) {
            case 0, 1, 2, 3 -> due("goal(" + table + ", " + terms,
                x.goal(table, s, t), model.goal(table, s, t));
            case 4, 5 -> due("freeze(" + v + ", " + table + ", " + terms,
                x.freeze(v, table, s, t), model.freeze(v, table, s, t));
            case 6 -> due("equal(" + terms, x.equal(s, t), model.equal(s, t));
            default -> due("differ(" + terms, x.differ(s, t), model.differ(s, t));
        }
    }

    private void solve() {
        if (random.nextInt(4) == 0) {
            due("solutions()", x.solutions(), model.solutions());
            return;
        }
        int want = model.solve();
        due("solve()", x.solve(), want);
        seen[want == FreezeDif.LOOSE ? 3 : want == 0 ? 2 : want <= 9 ? 1 : 0]++;
    }

    private void ask() {
        int most = Math.max(1, model.solutions());
        int j = number(most, most + 1);
        int k = number(most, most + 1);
        int goal = number(2, 4);
        int v = number(variables, 6);
        int mask = random.nextBoolean() ? 1 << random.nextInt(6) : random.nextInt();
        switch (random.nextInt(3)) {
            case 0 -> due("rowOf(" + k + ", " + goal + ")", x.rowOf(k, goal), model.rowOf(k, goal));
            case 1 -> due("valueOf(" + k + ", " + v + ")", x.valueOf(k, v), model.valueOf(k, v));
            default -> due("alike(" + j + ", " + k + ", " + mask + ")",
                x.alike(j, k, mask) ? 1 : 0, model.alike(j, k, mask) ? 1 : 0);
        }
    }

    /** Mostly a number below usual, at times one up to most, seldom a wrong one. */
    private int number(int usual, int most) {
        int die = random.nextInt(60);
        if (die == 0) {
            return EDGES[random.nextInt(EDGES.length)];
        }
        return random.nextInt(die < 6 ? most + 1 : usual);
    }

    private int cell() {
        return number(Math.max(1, model.cellCount()), 48);
    }

    private int mostlyGround() {
        int picked = cell();
        for (int i = 0; i < 4 && !model.isGround(picked); i++) {
            picked = cell();
        }
        return picked;
    }
}
