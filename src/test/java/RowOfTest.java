/** Promise 12, and of "Terms" how solutions are numbered. */
public final class RowOfTest {
    public static void main(String[] args) {
        theFirstGoalCountsMost();
        tablesOfDifferentLengths();
        wrongArguments();
        unsolvedIsTestedFirst();
        Due.finish();
    }

    private static void theFirstGoalCountsMost() {
        FreezeDif x = Make.withCells(6);
        for (int row = 0; row < 6; row++) {
            x.addRow(1, row / 3, row % 3);
        }
        x.goal(1, 3, 4);
        x.freeze(2, 1, 5, 6);
        x.goal(1, 7, 8);
        Due.due("solve", x.solve(), 216);
        for (int k = 0; k < 216; k += 2) {
            Due.due("goal 0 of " + k, x.rowOf(k, 0), k / 36);
            Due.due("goal 1 of " + k, x.rowOf(k, 1), k / 6 % 6);
            Due.due("goal 2 of " + k, x.rowOf(k, 2), k % 6);
        }
        Due.due("the last", x.rowOf(215, 2), 5);
        Due.due("one too many", x.rowOf(216, 0), FreezeDif.BAD);
    }

    private static void tablesOfDifferentLengths() {
        FreezeDif x = Make.withRows(4);
        x.addRow(3, 0, 0);
        x.addRow(3, 1, 1);
        x.goal(3, 3, 4);
        x.goal(0, 5, 6);
        x.differ(3, 5);
        Due.due("solve", x.solve(), 4);
        int[] rows = {0, 1, 0, 2, 1, 0, 1, 2};
        for (int k = 0; k < 4; k++) {
            Due.due("goal 0 of " + k, x.rowOf(k, 0), rows[2 * k]);
            Due.due("goal 1 of " + k, x.rowOf(k, 1), rows[2 * k + 1]);
        }
    }

    private static void wrongArguments() {
        FreezeDif x = Make.solved(2);
        Due.due("goal 1", x.rowOf(0, 1), FreezeDif.BAD);
        Due.due("solution 3", x.rowOf(3, 0), FreezeDif.BAD);
        for (int wild : Make.WILD) {
            Due.due("solution " + wild, x.rowOf(wild, 0), FreezeDif.BAD);
            Due.due("goal " + wild, x.rowOf(0, wild), FreezeDif.BAD);
        }
        x.equal(0, 1);
        x.solve();
        Due.due("no solution", x.rowOf(0, 0), FreezeDif.BAD);
        x.forget();
        x.solve();
        Due.due("no goal", x.rowOf(0, 0), FreezeDif.BAD);
    }

    private static void unsolvedIsTestedFirst() {
        FreezeDif x = Make.withRows(2);
        Due.due("new", x.rowOf(0, 0), FreezeDif.UNSOLVED);
        x.goal(0, 3, 4);
        Due.due("not solved yet", x.rowOf(0, 0), FreezeDif.UNSOLVED);
        Due.due("and wrong", x.rowOf(-1, 9), FreezeDif.UNSOLVED);
        x.solve();
        x.goal(0, 3, 4);
        Due.due("not solved any more", x.rowOf(0, 0), FreezeDif.UNSOLVED);
    }
}
