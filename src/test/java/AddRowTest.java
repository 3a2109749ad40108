/** Promise 5. */
public final class AddRowTest {
    public static void main(String[] args) {
        rowsAreNumberedInTheirTable();
        wrongArguments();
        rowsMustBeGround();
        noRowTwice();
        theOrderOfTheTests();
        aSolvedQueryBecomesUnsolved();
        Due.finish();
    }

    private static void rowsAreNumberedInTheirTable() {
        FreezeDif x = Make.withCells(1);
        for (int table = 0; table < 4; table++) {
            for (int row = 0; row < 6; row++) {
                Due.due("row " + row + " of table " + table, x.addRow(table, row / 3, row % 3), row);
            }
        }
        for (int table = 0; table < 4; table++) {
            Due.due("row 6 of table " + table, x.addRow(table, 2, 2), FreezeDif.FULL);
        }
    }

    private static void wrongArguments() {
        FreezeDif x = Make.withCells(1);
        int[] tables = {-1, 4, 5, 1000, Integer.MIN_VALUE, Integer.MAX_VALUE};
        for (int table : tables) {
            Due.due("table " + table, x.addRow(table, 0, 0), FreezeDif.BAD);
        }
        Due.due("left is the next cell", x.addRow(0, 4, 0), FreezeDif.BAD);
        Due.due("right is the next cell", x.addRow(0, 0, 4), FreezeDif.BAD);
        for (int wild : Make.WILD) {
            Due.due("left " + wild, x.addRow(0, wild, 0), FreezeDif.BAD);
            Due.due("right " + wild, x.addRow(0, 0, wild), FreezeDif.BAD);
        }
        Due.due("no row was added", x.addRow(0, 0, 0), 0);
    }

    private static void rowsMustBeGround() {
        FreezeDif x = Make.withCells(6);
        for (int v = 3; v < 9; v++) {
            int inFirst = x.pair(v, 0);
            int inSecond = x.pair(0, v);
            int deep = x.pair(0, inFirst);
            int[] terms = {v, inFirst, inSecond, deep};
            for (int term : terms) {
                Due.due("left with a variable", x.addRow(0, term, 0), FreezeDif.BAD);
                Due.due("right with a variable", x.addRow(0, 0, term), FreezeDif.BAD);
            }
        }
        int ground = x.pair(0, 1);
        Due.due("a ground pair", x.addRow(0, ground, ground), 0);
    }

    private static void noRowTwice() {
        FreezeDif x = Make.withCells(1);
        int pair = x.pair(0, 1);
        int samePair = x.pair(x.atom(0), x.atom(1));
        int sameAtom = x.atom(2);
        Due.due("a row", x.addRow(0, pair, 2), 0);
        Due.due("the same cells", x.addRow(0, pair, 2), FreezeDif.BAD);
        Due.due("the same terms in other cells", x.addRow(0, samePair, sameAtom), FreezeDif.BAD);
        Due.due("only the left is the same", x.addRow(0, samePair, 1), 1);
        Due.due("only the right is the same", x.addRow(0, 1, sameAtom), 2);
        Due.due("left and right changed over", x.addRow(0, 2, pair), 3);
        Due.due("the same row as row 2", x.addRow(0, 1, 2), FreezeDif.BAD);
        Due.due("the same row in another table", x.addRow(1, pair, 2), 0);
    }

    private static void theOrderOfTheTests() {
        FreezeDif x = Make.withCells(1);
        for (int row = 0; row < 6; row++) {
            x.addRow(2, row / 3, row % 3);
        }
        Due.due("full, and there already", x.addRow(2, 0, 0), FreezeDif.FULL);
        Due.due("full, and not ground", x.addRow(2, 3, 0), FreezeDif.BAD);
        Due.due("full, and no cell", x.addRow(2, 0, 4), FreezeDif.BAD);
    }

    private static void aSolvedQueryBecomesUnsolved() {
        FreezeDif x = Make.solved(2);
        Due.due("there already", x.addRow(0, 0, 1), FreezeDif.BAD);
        Due.due("still solved", x.solutions(), 3);
        Due.due("a row in the goal's table", x.addRow(0, 0, 0), 3);
        Due.due("unsolved", x.solutions(), FreezeDif.UNSOLVED);
        Due.due("solve", x.solve(), 4);
        Due.due("the new row", x.rowOf(3, 0), 3);
        Due.due("a row in another table", x.addRow(3, 0, 0), 0);
        Due.due("unsolved", x.solutions(), FreezeDif.UNSOLVED);
        Due.due("solve", x.solve(), 4);
    }
}
