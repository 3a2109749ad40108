/**
 * Promises 15 and 16. Each test stands for the sentence, or the part of one, that is written over
 * it.
 */
public final class ForgetClearTest {
    public static void main(String[] args) {
        forgetAnswersTheGoals();
        forgetEmptiesTheQuery();
        forgetLeavesCellsAndTables();
        forgetInEveryState();
        clearAnswersTheCells();
        clearInEveryState();
        cellsAfterClearAreNew();
        rowsAfterClearAreNew();
        clearKeepsTheVariables();
        Due.finish();
    }

    /** "Answers the number of goals that it had", from 0 to 4, plain and frozen. */
    private static void forgetAnswersTheGoals() {
        FreezeDif x = Make.withRows(1);
        for (int goals = 0; goals <= 4; goals++) {
            for (int g = 0; g < goals; g++) {
                Due.due("goal " + g, g % 2 == 0 ? x.goal(0, 3, 3) : x.freeze(0, 0, 3, 3), g);
            }
            x.equal(0, 0);
            x.differ(0, 1);
            Due.due("forget", x.forget(), goals);
            Due.due("forget again", x.forget(), 0);
        }
        Due.due("a full query", State.FULL.make().forget(), 4);
        Due.due("a solved one", State.FULL_SOLVED.make().forget(), 4);
        Due.due("a loose one", State.LOOSE.make().forget(), 1);
    }

    /** "Makes the query empty and unsolved": nothing of a full one is left. */
    private static void forgetEmptiesTheQuery() {
        FreezeDif x = State.FULL_SOLVED.make();
        Due.due("solutions before", x.solutions(), 4);
        Due.due("forget", x.forget(), 4);
        Due.due("unsolved", x.solutions(), FreezeDif.UNSOLVED);
        Due.due("unsolved", x.rowOf(0, 0), FreezeDif.UNSOLVED);
        Due.due("unsolved", x.valueOf(0, 0), FreezeDif.UNSOLVED);
        Due.due("unsolved", x.alike(0, 0, 0), false);
        Due.due("the empty query", x.solve(), 1);
        for (int g = 0; g < 4; g++) {
            Due.due("room for goal " + g, x.goal(1, 3, 4), g);
        }
        for (int n = 1; n <= 4; n++) {
            Due.due("room for equation " + n, x.equal(0, 0), n);
        }
        for (int n = 1; n <= 6; n++) {
            Due.due("room for disequality " + n, x.differ(0, 1), n);
        }
        Due.due("none of the disequalities is left", x.solve(), 6);
    }

    /** "cells and tables stay". */
    private static void forgetLeavesCellsAndTables() {
        FreezeDif x = Make.solved(2);
        x.forget();
        Due.due("the rows are there", x.addRow(0, 0, 1), FreezeDif.BAD);
        Due.due("the next row", x.addRow(0, 0, 0), 3);
        Due.due("the next cell", x.pair(0, 1), 5);
        Due.due("cells", x.clear(), 6);
        x = State.FULL.make();
        x.forget();
        Due.due("48 cells stay", x.atom(0), FreezeDif.FULL);
        for (int table = 0; table < 4; table++) {
            Due.due("6 rows stay", x.addRow(table, 2, 2), FreezeDif.FULL);
        }
    }

    /** After forget() a state tells what one with the same cells and tables and no query tells. */
    private static void forgetInEveryState() {
        State[] sameCellsAndTables = {State.NO_QUERY, State.NO_QUERY_SOLVED, State.UNSOLVED,
            State.SOLVED, State.NO_SOLUTION, State.LOOSE};
        for (State state : sameCellsAndTables) {
            FreezeDif x = state.make();
            x.forget();
            Told.same(state + ", forget()", x, State.NO_QUERY.make());
        }
        FreezeDif x = State.NEW.make();
        x.solve();
        x.forget();
        Told.same("a new object, solve() and forget()", x, State.NEW.make());
    }

    /** "Answers the number of cells that there were", from 0 to 48. */
    private static void clearAnswersTheCells() {
        for (int count = 0; count <= 48; count++) {
            FreezeDif x = Make.mixedCells(count);
            Due.due("clear", x.clear(), count);
            Due.due("clear again", x.clear(), 0);
        }
        for (State state : State.values()) {
            int want = state == State.NEW ? 0 : state.isFull() ? 48 : 11;
            Due.due(state + ", clear", state.make().clear(), want);
        }
    }

    /** "Makes everything as it was in the beginning", whatever came before. */
    private static void clearInEveryState() {
        for (State state : State.values()) {
            FreezeDif x = state.make();
            x.clear();
            Told.same(state + ", clear()", x, State.NEW.make());
            x = state.make();
            x.clear();
            Due.due(state + ", unsolved", x.solutions(), FreezeDif.UNSOLVED);
            Due.due(state + ", no cell", x.goal(0, 0, 0), FreezeDif.BAD);
            Due.due(state + ", no goal", x.forget(), 0);
            Due.due(state + ", the empty query", x.solve(), 1);
            Due.due(state + ", the first cell", x.variable(1), 0);
        }
    }

    /** "as it was in the beginning": nothing of the old cells is in the new ones. */
    private static void cellsAfterClearAreNew() {
        FreezeDif x = new FreezeDif(2);
        x.variable(0);
        x.variable(1);
        x.pair(0, 1);
        x.clear();
        x.atom(4);
        x.atom(5);
        Due.due("where a pair was", x.atom(6), 2);
        Due.due("no variable is in the new cells", x.addRow(0, 0, 2), 0);
        Due.due("their size is 1", x.pair(2, 2), 3);
        for (int i = 4; i < 9; i++) {
            Due.due("up to size 13", x.pair(i - 1, 2), i);
        }
        Due.due("size 15", x.pair(8, 2), FreezeDif.BAD);
        x.clear();
        x.atom(0);
        Due.due("a variable where an atom was", x.variable(1), 1);
        Due.due("it is not ground", x.addRow(0, 0, 1), FreezeDif.BAD);
    }

    /** "as it was in the beginning": the tables are empty, and rows and goals are new. */
    private static void rowsAfterClearAreNew() {
        FreezeDif x = State.FULL_SOLVED.make();
        x.clear();
        x.variable(1);
        x.atom(7);
        for (int table = 0; table < 4; table++) {
            x.goal(table, 0, 0);
            Due.due("table " + table + " is empty", x.solve(), 0);
            x.forget();
            Due.due("the first row", x.addRow(table, 1, 1), 0);
        }
        Due.due("the first goal", x.goal(0, 0, 0), 0);
        Due.due("the first equation", x.equal(1, 1), 1);
        Due.due("the first disequality", x.differ(1, x.pair(0, 0)), 1);
        Due.due("solve", x.solve(), 1);
        Due.due("its value", x.valueOf(0, 1), 8);
        Due.due("variable 0 plays no part", x.valueOf(0, 0), FreezeDif.BAD);
    }

    /** "as it was in the beginning": V is what it was when the object was made. */
    private static void clearKeepsTheVariables() {
        for (int variables = 1; variables <= 6; variables++) {
            FreezeDif x = new FreezeDif(variables);
            x.clear();
            Due.due("the last variable", x.variable(variables - 1), 0);
            Due.due("one too many", x.variable(variables), FreezeDif.BAD);
        }
    }
}
