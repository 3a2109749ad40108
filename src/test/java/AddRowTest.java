/** Promise 5. Each test stands for the sentence, or the part of one, that is written over it. */
public final class AddRowTest {
    public static void main(String[] args) {
        rowsAreNumberedInTheirTable();
        tablesOutside();
        sidesThatAreNoCells();
        sidesThatAreNotGround();
        sixRowsAndNoMore();
        noRowTwice();
        rowsThatAreNotTheSame();
        badArgumentsAreTestedBeforeFull();
        fullIsTestedBeforeTheSameRow();
        aSolvedQueryBecomesUnsolved();
        aRefusedRowLeavesASolvedQuery();
        Due.finish();
    }

    /** "Adds a row at the end of a table ... answers the row's number in its table." */
    private static void rowsAreNumberedInTheirTable() {
        FreezeDif x = Make.withCells(1);
        for (int table = 3; table >= 0; table--) {
            for (int row = 0; row < 6; row++) {
                Due.due("row of table " + table, x.addRow(table, row / 3, row % 3), row);
            }
        }
    }

    /** "table outside 0..3: BAD", and 0 and 3 are taken. */
    private static void tablesOutside() {
        for (int table : Make.outside(0, 3)) {
            FreezeDif x = Make.withCells(1);
            Due.due("table " + table, x.addRow(table, 0, 0), FreezeDif.BAD);
            for (int right = 0; right < 4; right++) {
                Due.due("no row was added", x.addRow(right, 0, 0), 0);
            }
        }
    }

    /** "left or right no cell's number: BAD", and the last cell's number is taken. */
    private static void sidesThatAreNoCells() {
        int[] counts = {1, 2, 47, 48};
        for (int count : counts) {
            for (int wrong : Make.outside(0, count - 1)) {
                FreezeDif x = Make.atoms(1, count);
                Due.due(count + " cells, left " + wrong, x.addRow(0, wrong, 0), FreezeDif.BAD);
                Due.due(count + " cells, right " + wrong, x.addRow(0, 0, wrong), FreezeDif.BAD);
                Due.due(count + " cells, both", x.addRow(0, wrong, wrong), FreezeDif.BAD);
                Due.due("the last cell", x.addRow(0, count - 1, count - 1), 0);
                Due.due("cells", x.clear(), count);
            }
        }
        for (int wrong : Make.outside(0, -1)) {
            FreezeDif x = new FreezeDif(1);
            Due.due("no cells, " + wrong, x.addRow(0, wrong, wrong), FreezeDif.BAD);
        }
    }

    /** "one of them not ground: BAD". */
    private static void sidesThatAreNotGround() {
        FreezeDif x = Make.withCells(6);
        for (int v = 3; v < 9; v++) {
            int inFirst = x.pair(v, 0);
            int inSecond = x.pair(0, v);
            int deep = x.pair(0, inFirst);
            int[] terms = {v, inFirst, inSecond, deep};
            for (int term : terms) {
                Due.due("left with a variable", x.addRow(0, term, 0), FreezeDif.BAD);
                Due.due("right with a variable", x.addRow(0, 0, term), FreezeDif.BAD);
                Due.due("both with a variable", x.addRow(0, term, term), FreezeDif.BAD);
            }
        }
        int ground = x.pair(0, 1);
        Due.due("a ground pair", x.addRow(0, ground, ground), 0);
    }

    /** "the table has 6 rows: FULL"; with 5 there is room for one, and tables fill up apart. */
    private static void sixRowsAndNoMore() {
        for (int table = 0; table < 4; table++) {
            FreezeDif x = Make.withCells(1);
            Make.addRows(x, table, 5);
            Due.due("the 6th row", x.addRow(table, 2, 2), 5);
            Due.due("the 7th row", x.addRow(table, 2, 1), FreezeDif.FULL);
            Due.due("the 7th row again", x.addRow(table, 2, 1), FreezeDif.FULL);
            for (int other = 0; other < 4; other++) {
                int want = other == table ? FreezeDif.FULL : 0;
                Due.due("a row in table " + other, x.addRow(other, 2, 1), want);
            }
        }
    }

    /** "the table has a row with the same left and the same right: BAD", whichever row that is. */
    private static void noRowTwice() {
        for (int count = 1; count <= 5; count++) {
            FreezeDif x = Make.withCells(1);
            Make.addRows(x, 1, count);
            for (int row = 0; row < count; row++) {
                int left = x.atom(row / 3);
                int right = x.atom(row % 3);
                Due.due("the same cells", x.addRow(1, row / 3, row % 3), FreezeDif.BAD);
                Due.due("other cells", x.addRow(1, left, right), FreezeDif.BAD);
                Due.due("one other cell", x.addRow(1, left, row % 3), FreezeDif.BAD);
            }
            Due.due("a new row", x.addRow(1, 2, 2), count);
        }
    }

    /** "the same left and the same right": one of the two is not enough, nor is another table. */
    private static void rowsThatAreNotTheSame() {
        FreezeDif x = Make.withCells(1);
        int pair = x.pair(0, 1);
        int samePair = x.pair(x.atom(0), x.atom(1));
        Due.due("a row", x.addRow(0, pair, 2), 0);
        Due.due("the same terms in other cells", x.addRow(0, samePair, 2), FreezeDif.BAD);
        Due.due("only the left is the same", x.addRow(0, samePair, 1), 1);
        Due.due("only the right is the same", x.addRow(0, 1, 2), 2);
        Due.due("left and right changed over", x.addRow(0, 2, pair), 3);
        Due.due("left of one row, right of another", x.addRow(0, 1, 1), 4);
        Due.due("the pair turned round", x.addRow(0, x.pair(1, 0), 2), 5);
        for (int table = 1; table < 4; table++) {
            Due.due("the same row in table " + table, x.addRow(table, pair, 2), 0);
        }
    }

    /** "Tested in this order": what is wrong with an argument comes before FULL. */
    private static void badArgumentsAreTestedBeforeFull() {
        FreezeDif x = Make.withCells(1);
        for (int table = 0; table < 4; table++) {
            Make.addRows(x, table, 6);
        }
        for (int wrong : Make.outside(0, 3)) {
            Due.due("full, table " + wrong, x.addRow(wrong, 0, 0), FreezeDif.BAD);
        }
        for (int wrong : Make.outside(0, 3)) {
            Due.due("full, left " + wrong, x.addRow(0, wrong, 0), FreezeDif.BAD);
            Due.due("full, right " + wrong, x.addRow(3, 0, wrong), FreezeDif.BAD);
        }
        Due.due("full, left not ground", x.addRow(2, 3, 0), FreezeDif.BAD);
        Due.due("full, right not ground", x.addRow(2, 0, 3), FreezeDif.BAD);
        Due.due("full, all in order", x.addRow(2, 2, 2), FreezeDif.FULL);
    }

    /** "Tested in this order": FULL comes before the row that is there already. */
    private static void fullIsTestedBeforeTheSameRow() {
        FreezeDif x = Make.withCells(1);
        Make.addRows(x, 2, 5);
        for (int row = 0; row < 5; row++) {
            Due.due("5 rows, row " + row, x.addRow(2, row / 3, row % 3), FreezeDif.BAD);
        }
        x.addRow(2, 1, 2);
        for (int row = 0; row < 6; row++) {
            Due.due("6 rows, row " + row, x.addRow(2, row / 3, row % 3), FreezeDif.FULL);
        }
    }

    /** "If the query is solved it becomes unsolved", whichever table the row goes to. */
    private static void aSolvedQueryBecomesUnsolved() {
        for (State state : State.values()) {
            for (int table = 0; table < 4 && state.isSolved() && !state.isFull(); table++) {
                FreezeDif x = state.make();
                Due.due(state + ", solutions before", x.solutions(), state.solutions());
                x.addRow(table, 0, 0);
                Due.due(state + ", unsolved", x.solutions(), FreezeDif.UNSOLVED);
                Due.due(state + ", rowOf", x.rowOf(0, 0), FreezeDif.UNSOLVED);
                Due.due(state + ", valueOf", x.valueOf(0, 0), FreezeDif.UNSOLVED);
                Due.due(state + ", alike", x.alike(0, 0, 0), false);
            }
        }
        FreezeDif x = Make.solved(2);
        Due.due("a row in the goal's table", x.addRow(0, 0, 0), 3);
        Due.due("solve", x.solve(), 4);
        Due.due("the new row", x.rowOf(3, 0), 3);
    }

    /** Promise 17: "a solved query stays solved" where the row is refused. */
    private static void aRefusedRowLeavesASolvedQuery() {
        FreezeDif x = Make.solved(2);
        Due.due("no such table", x.addRow(4, 0, 0), FreezeDif.BAD);
        Due.due("no such cell", x.addRow(0, 5, 0), FreezeDif.BAD);
        Due.due("not ground", x.addRow(0, 0, 4), FreezeDif.BAD);
        Due.due("there already", x.addRow(0, 0, 1), FreezeDif.BAD);
        Due.due("still solved", x.solutions(), 3);
        x = State.FULL_SOLVED.make();
        for (int table = 0; table < 4; table++) {
            Due.due("full", x.addRow(table, 2, 2), FreezeDif.FULL);
        }
        Due.due("still solved", x.solutions(), State.FULL_SOLVED.solutions());
    }
}
