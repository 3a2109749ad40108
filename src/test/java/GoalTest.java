/** Promises 6 and 7: what plain and frozen goals have in common is tested for both. */
public final class GoalTest {
    public static void main(String[] args) {
        for (int frozen = 0; frozen < 2; frozen++) {
            goalsAreNumbered(frozen == 1);
            wrongArguments(frozen == 1);
            badIsTestedBeforeFull(frozen == 1);
            aSolvedQueryBecomesUnsolved(frozen == 1);
            goalsPickFromTheirTable(frozen == 1);
            repeatedVariables(frozen == 1);
            pairsInGoals(frozen == 1);
        }
        plainAndFrozenAreNumberedTogether();
        wrongVariables();
        freezingChangesNoAnswer();
        Due.finish();
    }

    /** Adds a goal, frozen on variable 0 if that is asked. */
    private static int add(FreezeDif x, boolean frozen, int table, int left, int right) {
        return frozen ? x.freeze(0, table, left, right) : x.goal(table, left, right);
    }

    private static void goalsAreNumbered(boolean frozen) {
        FreezeDif x = Make.withCells(1);
        for (int g = 0; g < 4; g++) {
            Due.due("goal " + g, add(x, frozen, g, 0, 3), g);
        }
        Due.due("goal 4", add(x, frozen, 0, 0, 3), FreezeDif.FULL);
        Due.due("goals", x.forget(), 4);
    }

    private static void wrongArguments(boolean frozen) {
        FreezeDif x = Make.withCells(1);
        int[] tables = {-1, 4, 5, 1000, Integer.MIN_VALUE, Integer.MAX_VALUE};
        for (int table : tables) {
            Due.due("table " + table, add(x, frozen, table, 0, 0), FreezeDif.BAD);
        }
        Due.due("x is the next cell", add(x, frozen, 0, 4, 0), FreezeDif.BAD);
        Due.due("y is the next cell", add(x, frozen, 0, 0, 4), FreezeDif.BAD);
        for (int wild : Make.WILD) {
            Due.due("x is " + wild, add(x, frozen, 0, wild, 0), FreezeDif.BAD);
            Due.due("y is " + wild, add(x, frozen, 0, 0, wild), FreezeDif.BAD);
        }
        Due.due("no goal was added", x.forget(), 0);
    }

    private static void badIsTestedBeforeFull(boolean frozen) {
        FreezeDif x = Make.withCells(1);
        for (int g = 0; g < 4; g++) {
            add(x, frozen, 0, 3, 3);
        }
        Due.due("full, table wrong", add(x, frozen, 4, 0, 0), FreezeDif.BAD);
        Due.due("full, x wrong", add(x, frozen, 0, 4, 0), FreezeDif.BAD);
        Due.due("full, y wrong", add(x, frozen, 0, 0, -1), FreezeDif.BAD);
        Due.due("full", add(x, frozen, 0, 0, 0), FreezeDif.FULL);
    }

    private static void aSolvedQueryBecomesUnsolved(boolean frozen) {
        FreezeDif x = Make.solved(2);
        Due.due("a wrong goal", add(x, frozen, 4, 3, 4), FreezeDif.BAD);
        Due.due("still solved", x.solutions(), 3);
        Due.due("a goal", add(x, frozen, 0, 3, 4), 1);
        Due.due("unsolved", x.solutions(), FreezeDif.UNSOLVED);
        Due.due("solve", x.solve(), 3);
        add(x, frozen, 0, 3, 4);
        add(x, frozen, 0, 3, 4);
        x.solve();
        Due.due("one too many", add(x, frozen, 0, 3, 4), FreezeDif.FULL);
        Due.due("still solved", x.solutions(), 3);
    }

    private static void goalsPickFromTheirTable(boolean frozen) {
        FreezeDif x = Make.withRows(2);
        x.addRow(3, 2, 2);
        add(x, frozen, 3, 3, 4);
        Due.due("table 3", x.solve(), 1);
        Due.due("its row", x.rowOf(0, 0), 0);
        Due.due("its left", x.valueOf(0, 0), 3);
        Due.due("its right", x.valueOf(0, 1), 3);
        add(x, frozen, 2, 3, 4);
        Due.due("an empty table", x.solve(), 0);
    }

    private static void repeatedVariables(boolean frozen) {
        FreezeDif x = Make.withRows(2);
        add(x, frozen, 0, 3, 3);
        Due.due("no row has two same sides", x.solve(), 0);
        x.addRow(0, 2, 2);
        Due.due("now one has", x.solve(), 1);
        Due.due("its row", x.rowOf(0, 0), 3);
        Due.due("its value", x.valueOf(0, 0), 3);
    }

    private static void pairsInGoals(boolean frozen) {
        FreezeDif x = Make.withCells(2);
        int ground = x.pair(0, x.pair(1, 0));
        int flat = x.pair(0, 1);
        int pattern = x.pair(3, x.pair(4, 3));
        x.addRow(0, flat, 0);
        x.addRow(0, ground, 0);
        x.addRow(0, 0, 0);
        x.addRow(0, x.pair(0, x.pair(1, 1)), 0);
        add(x, frozen, 0, pattern, 3);
        Due.due("the one row of that shape", x.solve(), 1);
        Due.due("its number", x.rowOf(0, 0), 1);
        Due.due("variable 0", x.valueOf(0, 0), 1);
        Due.due("variable 1", x.valueOf(0, 1), 2);
    }

    private static void plainAndFrozenAreNumberedTogether() {
        FreezeDif x = Make.withCells(2);
        Due.due("plain", x.goal(0, 3, 4), 0);
        Due.due("frozen", x.freeze(1, 0, 3, 4), 1);
        Due.due("plain", x.goal(1, 3, 4), 2);
        Due.due("frozen", x.freeze(0, 1, 3, 4), 3);
        Due.due("plain, full", x.goal(0, 3, 4), FreezeDif.FULL);
        Due.due("frozen, full", x.freeze(0, 0, 3, 4), FreezeDif.FULL);
    }

    private static void wrongVariables() {
        for (int count = 1; count <= 6; count++) {
            FreezeDif x = Make.withCells(count);
            int[] wrong = {-1, count, Integer.MIN_VALUE, Integer.MAX_VALUE};
            for (int v : wrong) {
                Due.due("freeze on " + v, x.freeze(v, 0, 0, 0), FreezeDif.BAD);
            }
            for (int g = 0; g < 4; g++) {
                Due.due("freeze on the last", x.freeze(count - 1, 0, 0, 0), g);
            }
            Due.due("full, variable wrong", x.freeze(count, 0, 0, 0), FreezeDif.BAD);
        }
    }

    private static void freezingChangesNoAnswer() {
        FreezeDif plain = Make.withRows(3);
        FreezeDif frozen = Make.withRows(3);
        plain.goal(0, 3, 4);
        plain.goal(0, 4, 5);
        frozen.freeze(2, 0, 3, 4);
        frozen.freeze(0, 0, 4, 5);
        Due.due("solve", frozen.solve(), plain.solve());
        for (int k = 0; k < 3; k++) {
            for (int g = 0; g < 2; g++) {
                Due.due("row", frozen.rowOf(k, g), plain.rowOf(k, g));
            }
            for (int v = 0; v < 3; v++) {
                Due.due("value", frozen.valueOf(k, v), plain.valueOf(k, v));
            }
        }
    }
}
