/**
 * Promises 6 and 7: what plain and frozen goals have in common is tested for both. Each test stands
 * for the sentence, or the part of one, that is written over it.
 */
public final class GoalTest {
    public static void main(String[] args) {
        for (int kind = 0; kind < 2; kind++) {
            boolean frozen = kind == 1;
            tablesOutside(frozen);
            termsThatAreNoCells(frozen);
            fourGoalsAndNoMore(frozen);
            badIsTestedBeforeFull(frozen);
            aSolvedQueryBecomesUnsolved(frozen);
            aRefusedGoalLeavesASolvedQuery(frozen);
            goalsPickFromTheirTable(frozen);
            repeatedVariables(frozen);
            pairsInGoals(frozen);
        }
        variablesOutside();
        aVariableWithoutACell();
        plainAndFrozenAreNumberedTogether();
        Due.finish();
    }

    /** Adds a goal, frozen on variable 0 if that is asked. */
    private static int add(FreezeDif x, boolean frozen, int table, int left, int right) {
        return frozen ? x.freeze(0, table, left, right) : x.goal(table, left, right);
    }

    /** "table outside 0..3: BAD", and 0 to 3 are taken. */
    private static void tablesOutside(boolean frozen) {
        for (int table : Make.outside(0, 3)) {
            FreezeDif x = Make.withCells(1);
            Due.due("table " + table, add(x, frozen, table, 0, 0), FreezeDif.BAD);
            Due.due("no goal was added", x.forget(), 0);
            for (int g = 0; g < 4; g++) {
                Due.due("table " + g, add(x, frozen, g, 0, 0), g);
            }
        }
    }

    /** "x or y no cell's number: BAD", and the last cell's number is taken. */
    private static void termsThatAreNoCells(boolean frozen) {
        int[] counts = {1, 2, 47, 48};
        for (int count : counts) {
            for (int wrong : Make.outside(0, count - 1)) {
                FreezeDif x = Make.atoms(1, count);
                Due.due(count + " cells, x " + wrong, add(x, frozen, 0, wrong, 0), FreezeDif.BAD);
                Due.due(count + " cells, y " + wrong, add(x, frozen, 0, 0, wrong), FreezeDif.BAD);
                Due.due(count + " cells, both", add(x, frozen, 0, wrong, wrong), FreezeDif.BAD);
                Due.due("no goal was added", x.forget(), 0);
                Due.due("the last cell", add(x, frozen, 0, count - 1, count - 1), 0);
            }
        }
        for (int wrong : Make.outside(0, -1)) {
            FreezeDif x = new FreezeDif(1);
            Due.due("no cells, " + wrong, add(x, frozen, 0, wrong, wrong), FreezeDif.BAD);
        }
    }

    /** "4 goals are there: FULL"; with 3 there is room for one more. */
    private static void fourGoalsAndNoMore(boolean frozen) {
        for (int table = 0; table < 4; table++) {
            FreezeDif x = Make.withCells(1);
            for (int g = 0; g < 4; g++) {
                Due.due("goal " + g, add(x, frozen, table, g, 3), g);
            }
            Due.due("one more", add(x, frozen, table, 0, 3), FreezeDif.FULL);
            Due.due("one more in another table", add(x, frozen, 3 - table, 0, 0), FreezeDif.FULL);
            Due.due("goals", x.forget(), 4);
            Due.due("room again", add(x, frozen, table, 0, 3), 0);
        }
    }

    /** Promise 17: "goal, freeze ...: BAD is tested before FULL." */
    private static void badIsTestedBeforeFull(boolean frozen) {
        FreezeDif x = Make.withCells(1);
        for (int g = 0; g < 4; g++) {
            add(x, frozen, 0, 3, 3);
        }
        for (int wrong : Make.outside(0, 3)) {
            Due.due("full, table " + wrong, add(x, frozen, wrong, 0, 0), FreezeDif.BAD);
            Due.due("full, x " + wrong, add(x, frozen, 0, wrong, 0), FreezeDif.BAD);
            Due.due("full, y " + wrong, add(x, frozen, 0, 0, wrong), FreezeDif.BAD);
            Due.due("full, all " + wrong, add(x, frozen, wrong, wrong, wrong), FreezeDif.BAD);
        }
        Due.due("full, all in order", add(x, frozen, 0, 0, 0), FreezeDif.FULL);
        Due.due("goals", x.forget(), 4);
    }

    /** "If the query is solved it becomes unsolved." */
    private static void aSolvedQueryBecomesUnsolved(boolean frozen) {
        for (State state : State.values()) {
            if (!state.isSolved() || state.isFull()) {
                continue;
            }
            FreezeDif x = state.make();
            Due.due(state + ", solutions before", x.solutions(), state.solutions());
            Due.due(state + ", a goal", add(x, frozen, 3, 3, 4) >= 0, true);
            Due.due(state + ", unsolved", x.solutions(), FreezeDif.UNSOLVED);
            Due.due(state + ", rowOf", x.rowOf(0, 0), FreezeDif.UNSOLVED);
            Due.due(state + ", valueOf", x.valueOf(0, 0), FreezeDif.UNSOLVED);
            Due.due(state + ", alike", x.alike(0, 0, 0), false);
        }
    }

    /** Promise 17: "a solved query stays solved" where the goal is refused. */
    private static void aRefusedGoalLeavesASolvedQuery(boolean frozen) {
        FreezeDif x = Make.solved(2);
        Due.due("no such table", add(x, frozen, 4, 3, 4), FreezeDif.BAD);
        Due.due("no such x", add(x, frozen, 0, 5, 4), FreezeDif.BAD);
        Due.due("no such y", add(x, frozen, 0, 3, 5), FreezeDif.BAD);
        Due.due("still solved", x.solutions(), 3);
        x = State.FULL_SOLVED.make();
        Due.due("full", add(x, frozen, 0, 3, 3), FreezeDif.FULL);
        Due.due("still solved", x.solutions(), State.FULL_SOLVED.solutions());
    }

    private static void goalsPickFromTheirTable(boolean frozen) {
        FreezeDif x = Make.withRows(2);
        x.addRow(3, 2, 2);
        add(x, frozen, 3, 3, 4);
        Due.due("table 3", x.solve(), 1);
        Due.due("its row", x.rowOf(0, 0), 0);
        Due.due("its left", x.valueOf(0, 0), 3);
        Due.due("its right", x.valueOf(0, 1), 3);
        add(x, frozen, 2, 3, 4);
        Due.due("an empty table", x.solve(), 0);
    }

    private static void repeatedVariables(boolean frozen) {
        FreezeDif x = Make.withRows(2);
        add(x, frozen, 0, 3, 3);
        Due.due("no row has two same sides", x.solve(), 0);
        x.addRow(0, 2, 2);
        Due.due("now one has", x.solve(), 1);
        Due.due("its row", x.rowOf(0, 0), 3);
        Due.due("its value", x.valueOf(0, 0), 3);
    }

    private static void pairsInGoals(boolean frozen) {
        FreezeDif x = Make.withCells(2);
        int ground = x.pair(0, x.pair(1, 0));
        int flat = x.pair(0, 1);
        int pattern = x.pair(3, x.pair(4, 3));
        x.addRow(0, flat, 0);
        x.addRow(0, ground, 0);
        x.addRow(0, 0, 0);
        x.addRow(0, x.pair(0, x.pair(1, 1)), 0);
        add(x, frozen, 0, pattern, 3);
        Due.due("the one row of that shape", x.solve(), 1);
        Due.due("its number", x.rowOf(0, 0), 1);
        Due.due("variable 0", x.valueOf(0, 0), 1);
        Due.due("variable 1", x.valueOf(0, 1), 2);
    }

    /** "v outside 0..V-1: BAD", before FULL too, and 0 and V-1 are taken. */
    private static void variablesOutside() {
        for (int variables = 1; variables <= 6; variables++) {
            FreezeDif x = Make.withCells(variables);
            for (int v : Make.outside(0, variables - 1)) {
                Due.due("freeze on " + v, x.freeze(v, 0, 0, 0), FreezeDif.BAD);
                Due.due("all wrong", x.freeze(v, v, v, v), FreezeDif.BAD);
            }
            Due.due("no goal was added", x.forget(), 0);
            for (int g = 0; g < 4; g++) {
                int v = g % 2 == 0 ? variables - 1 : 0;
                Due.due("freeze on " + v + " of " + variables, x.freeze(v, 0, 0, 0), g);
            }
            for (int v : Make.outside(0, variables - 1)) {
                Due.due("full, freeze on " + v, x.freeze(v, 0, 0, 0), FreezeDif.BAD);
            }
            Due.due("full, all in order", x.freeze(0, 0, 0, 0), FreezeDif.FULL);
        }
    }

    /** "frozen on variable v" asks for a number of 0..V-1 and not for a cell. */
    private static void aVariableWithoutACell() {
        for (int v = 0; v < 6; v++) {
            FreezeDif x = Make.atoms(6, 1);
            Due.due("no cell of variable " + v, x.freeze(v, 0, 0, 0), 0);
            Due.due("the query is loose", x.solve(), FreezeDif.LOOSE);
        }
    }

    /** "numbered in the order they are added, plain and frozen together", and FULL together. */
    private static void plainAndFrozenAreNumberedTogether() {
        for (int frozen = 0; frozen < 16; frozen++) {
            FreezeDif x = Make.withCells(1);
            for (int g = 0; g < 4; g++) {
                Due.due("goal " + g, add(x, (frozen >> g & 1) == 1, 0, 3, 3), g);
            }
            Due.due("one more, plain", x.goal(0, 3, 3), FreezeDif.FULL);
            Due.due("one more, frozen", x.freeze(0, 0, 3, 3), FreezeDif.FULL);
            Due.due("goals", x.forget(), 4);
        }
    }
}
