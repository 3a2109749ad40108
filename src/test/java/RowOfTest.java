/**
 * Promise 12, and of "Terms" how solutions are numbered. Each test stands for the sentence, or the
 * part of one, that is written over it.
 */
public final class RowOfTest {
    public static void main(String[] args) {
        theFirstGoalCountsMost();
        theMostSolutions();
        tablesOfDifferentLengths();
        solutionsOutside();
        goalsOutside();
        noSolutionAndNoGoal();
        unsolvedIsTestedFirst();
        Due.finish();
    }

    /** "numbered from 0 by comparing the chosen rows' numbers goal by goal, goal 0 first". */
    private static void theFirstGoalCountsMost() {
        FreezeDif x = Make.withCells(6);
        Make.addRows(x, 1, 6);
        x.goal(1, 3, 4);
        x.freeze(2, 1, 5, 6);
        x.goal(1, 7, 8);
        Due.due("solve", x.solve(), 216);
        for (int k = 0; k < 216; k += 2) {
            Due.due("goal 0 of " + k, x.rowOf(k, 0), k / 36);
            Due.due("goal 1 of " + k, x.rowOf(k, 1), k / 6 % 6);
            Due.due("goal 2 of " + k, x.rowOf(k, 2), k % 6);
        }
        Due.due("the last", x.rowOf(215, 2), 5);
    }

    /** The same for the first, the last and some other of the most solutions that can be. */
    private static void theMostSolutions() {
        FreezeDif x = Make.mostSolutions();
        int[] picked = {0, 1, 5, 6, 35, 36, 215, 216, 255, 256, 700, 1023, 1024, 1294, 1295};
        for (int k : picked) {
            int weight = 216;
            for (int g = 0; g < 4; g++) {
                Due.due("row of " + k, x.rowOf(k, g), k / weight % 6);
                Due.due("value of " + k, x.valueOf(k, g + 2), k / weight % 6 + 1);
                weight /= 6;
            }
        }
    }

    /** "the one with the smaller row number at the first goal where two choices differ". */
    private static void tablesOfDifferentLengths() {
        FreezeDif x = Make.withRows(4);
        x.addRow(3, 0, 0);
        x.addRow(3, 1, 1);
        x.goal(3, 3, 4);
        x.goal(0, 5, 6);
        x.differ(3, 5);
        Due.due("solve", x.solve(), 4);
        int[] rows = {0, 1, 0, 2, 1, 0, 1, 2};
        for (int k = 0; k < 4; k++) {
            Due.due("goal 0 of " + k, x.rowOf(k, 0), rows[2 * k]);
            Due.due("goal 1 of " + k, x.rowOf(k, 1), rows[2 * k + 1]);
        }
    }

    /** "BAD if k is outside 0 .. solutions() - 1", with 1, 3 and 1296 solutions. */
    private static void solutionsOutside() {
        FreezeDif one = Make.withRows(1);
        one.goal(0, 0, 1);
        one.solve();
        kOutside(one, 1);
        kOutside(Make.solved(2), 3);
        kOutside(Make.mostSolutions(), 1296);
    }

    private static void kOutside(FreezeDif x, int count) {
        Due.due("solutions", x.solutions(), count);
        Due.due("the first", x.rowOf(0, 0), 0);
        Due.due("the last", x.rowOf(count - 1, 0) >= 0, true);
        for (int k : Make.outside(0, count - 1)) {
            Due.due("solution " + k + " of " + count, x.rowOf(k, 0), FreezeDif.BAD);
        }
        Due.due("still solved", x.solutions(), count);
    }

    /** "or there is no goal with that number", with 1 to 4 goals, plain and frozen. */
    private static void goalsOutside() {
        FreezeDif x = Make.withRows(2);
        for (int goals = 1; goals <= 4; goals++) {
            if (goals % 2 == 1) {
                x.goal(0, 3, 4);
            } else {
                x.freeze(0, 0, 3, 4);
            }
            x.solve();
            for (int g = 0; g < goals; g++) {
                Due.due("goal " + g + " of " + goals, x.rowOf(2, g), 2);
            }
            for (int g : Make.outside(0, goals - 1)) {
                Due.due("goal " + g + " of " + goals, x.rowOf(2, g), FreezeDif.BAD);
            }
        }
    }

    /** Where there is no solution, or no goal, every number is outside. */
    private static void noSolutionAndNoGoal() {
        FreezeDif none = State.NO_SOLUTION.make();
        FreezeDif noGoal = State.NO_QUERY_SOLVED.make();
        for (int n : Make.outside(0, -1)) {
            Due.due("no solution " + n, none.rowOf(n, 0), FreezeDif.BAD);
            Due.due("no goal " + n, noGoal.rowOf(0, n), FreezeDif.BAD);
            Due.due("neither", noGoal.rowOf(n, n), FreezeDif.BAD);
        }
    }

    /** "UNSOLVED if the query is not solved; else BAD". */
    private static void unsolvedIsTestedFirst() {
        for (State state : State.values()) {
            if (state.isSolved()) {
                continue;
            }
            FreezeDif x = state.make();
            Due.due(state + ", right numbers", x.rowOf(0, 0), FreezeDif.UNSOLVED);
            for (int wrong : Make.outside(0, 3)) {
                Due.due(state + ", solution " + wrong, x.rowOf(wrong, 0), FreezeDif.UNSOLVED);
                Due.due(state + ", goal " + wrong, x.rowOf(0, wrong), FreezeDif.UNSOLVED);
            }
        }
        FreezeDif x = Make.solved(2);
        x.goal(0, 3, 4);
        Due.due("not solved any more", x.rowOf(0, 0), FreezeDif.UNSOLVED);
    }
}
