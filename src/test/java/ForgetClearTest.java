/** Promises 15 and 16. */
public final class ForgetClearTest {
    public static void main(String[] args) {
        forgetAnswersTheGoals();
        forgetEmptiesTheQuery();
        forgetLeavesCellsAndTables();
        clearAnswersTheCells();
        clearEmptiesEverything();
        cellsAfterClearAreNew();
        clearKeepsTheVariables();
        Due.finish();
    }

    private static void forgetAnswersTheGoals() {
        FreezeDif x = Make.withRows(1);
        for (int goals = 0; goals <= 4; goals++) {
            for (int g = 0; g < goals; g++) {
                Due.due("goal " + g, g % 2 == 0 ? x.goal(0, 3, 3) : x.freeze(0, 0, 3, 3), g);
            }
            x.equal(0, 0);
            x.differ(0, 1);
            Due.due("forget", x.forget(), goals);
            Due.due("forget again", x.forget(), 0);
        }
    }

    private static FreezeDif fullQuery() {
        FreezeDif x = Make.withRows(2);
        for (int i = 0; i < 6; i++) {
            x.goal(0, 3, 3);
            x.equal(0, 1);
            x.differ(0, 0);
        }
        x.solve();
        return x;
    }

    private static void forgetEmptiesTheQuery() {
        FreezeDif x = fullQuery();
        Due.due("solutions before", x.solutions(), 0);
        Due.due("forget", x.forget(), 4);
        Due.due("unsolved", x.solutions(), FreezeDif.UNSOLVED);
        Due.due("unsolved", x.rowOf(0, 0), FreezeDif.UNSOLVED);
        Due.due("the empty query", x.solve(), 1);
        Due.due("the first equation", x.equal(0, 0), 1);
        Due.due("the first disequality", x.differ(0, 1), 1);
        Due.due("the first goal", x.goal(0, 3, 4), 0);
        Due.due("solve", x.solve(), 3);
        x.forget();
        x.freeze(1, 0, 0, 1);
        x.forget();
        Due.due("no freezing is left", x.solve(), 1);
    }

    private static void forgetLeavesCellsAndTables() {
        FreezeDif x = fullQuery();
        x.forget();
        Due.due("the rows are there", x.addRow(0, 0, 1), FreezeDif.BAD);
        Due.due("the next row", x.addRow(0, 0, 0), 3);
        Due.due("the next cell", x.pair(0, 1), 5);
        Due.due("cells", x.clear(), 6);
    }

    private static void clearAnswersTheCells() {
        FreezeDif x = new FreezeDif(1);
        int[] counts = {0, 1, 2, 47, 48};
        for (int count : counts) {
            for (int i = 0; i < count; i++) {
                x.atom(i % 16);
            }
            Due.due("clear", x.clear(), count);
            Due.due("clear again", x.clear(), 0);
        }
    }

    private static void clearEmptiesEverything() {
        FreezeDif x = fullQuery();
        for (int table = 1; table < 4; table++) {
            x.addRow(table, 0, 0);
        }
        Due.due("clear", x.clear(), 5);
        Due.due("unsolved", x.solutions(), FreezeDif.UNSOLVED);
        Due.due("no cell", x.goal(0, 0, 0), FreezeDif.BAD);
        Due.due("no cell", x.equal(0, 0), FreezeDif.BAD);
        Due.due("no goal", x.forget(), 0);
        Due.due("the empty query", x.solve(), 1);
        Due.due("the first cell", x.variable(1), 0);
        Due.due("another kind than before", x.atom(7), 1);
        for (int table = 0; table < 4; table++) {
            Due.due("the cell is no atom now", x.addRow(table, 0, 1), FreezeDif.BAD);
            Due.due("the first row", x.addRow(table, 1, 1), 0);
        }
        Due.due("the first goal", x.goal(0, 0, 0), 0);
        Due.due("the first equation", x.equal(1, 1), 1);
        Due.due("the first disequality", x.differ(1, x.pair(0, 0)), 1);
        Due.due("solve", x.solve(), 1);
        Due.due("its value", x.valueOf(0, 1), 8);
        Due.due("variable 0 plays no part", x.valueOf(0, 0), FreezeDif.BAD);
    }

    private static void cellsAfterClearAreNew() {
        FreezeDif x = new FreezeDif(2);
        x.variable(0);
        x.variable(1);
        x.pair(0, 1);
        x.clear();
        x.atom(4);
        x.atom(5);
        Due.due("where a pair was", x.atom(6), 2);
        Due.due("no variable is in the new cells", x.addRow(0, 0, 2), 0);
        Due.due("their size is 1", x.pair(2, 2), 3);
        for (int i = 4; i < 9; i++) {
            Due.due("up to size 13", x.pair(i - 1, 2), i);
        }
        Due.due("size 15", x.pair(8, 2), FreezeDif.BAD);
    }

    private static void clearKeepsTheVariables() {
        for (int count = 1; count <= 6; count++) {
            FreezeDif x = new FreezeDif(count);
            x.clear();
            Due.due("the last variable", x.variable(count - 1), 0);
            Due.due("one too many", x.variable(count), FreezeDif.BAD);
        }
    }
}
