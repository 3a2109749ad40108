/** Promises 10 and 11, and of "Terms" what a choice, a solution and a loose query are. */
public final class SolveTest {
    public static void main(String[] args) {
        aQueryWithoutGoals();
        solvingAgain();
        looseQueries();
        queriesThatAreNotLoose();
        looseThenMended();
        cellsLeaveAQuerySolved();
        theMostSolutions();
        Due.finish();
    }

    private static void aQueryWithoutGoals() {
        FreezeDif x = new FreezeDif(2);
        Due.due("solutions before", x.solutions(), FreezeDif.UNSOLVED);
        Due.due("the empty query", x.solve(), 1);
        Due.due("solutions after", x.solutions(), 1);
        x.atom(0);
        x.atom(1);
        x.equal(0, 1);
        Due.due("an equation that does not hold", x.solve(), 0);
        Due.due("solutions", x.solutions(), 0);
    }

    private static void solvingAgain() {
        FreezeDif x = Make.solved(2);
        for (int i = 0; i < 3; i++) {
            Due.due("solve", x.solve(), 3);
            Due.due("solutions", x.solutions(), 3);
        }
        Due.due("row", x.rowOf(2, 0), 2);
    }

    private static void looseQueries() {
        for (int v = 0; v < 6; v++) {
            int cell = 3 + v;
            FreezeDif x = Make.withRows(6);
            int inside = x.pair(0, x.pair(cell, 1));
            x.freeze(v, 0, 0, 1);
            loose(x, "frozen on it alone");
            x.equal(cell, 0);
            loose(x, "left in an equation");
            x.equal(0, inside);
            loose(x, "right in an equation, inside");
            x.differ(inside, 0);
            loose(x, "left in a disequality, inside");
            x.differ(0, cell);
            loose(x, "right in a disequality");
            x.equal(cell, cell);
            loose(x, "an equation that holds anyhow");
            x.goal(0, 3 + (v + 1) % 6, 1);
            x.differ(cell, 0);
            loose(x, "a goal with another variable");
            x.goal(3, 0, 0);
            x.equal(cell, 0);
            loose(x, "a goal with an empty table");
        }
    }

    private static void loose(FreezeDif x, String what) {
        Due.due(what, x.solve(), FreezeDif.LOOSE);
        Due.due(what + ", again", x.solve(), FreezeDif.LOOSE);
        Due.due(what + ", solutions", x.solutions(), FreezeDif.UNSOLVED);
        x.forget();
    }

    private static void queriesThatAreNotLoose() {
        for (int v = 0; v < 6; v++) {
            int cell = 3 + v;
            FreezeDif x = Make.withRows(6);
            x.addRow(1, x.pair(0, 1), 0);
            int inside = x.pair(cell, 1);
            x.goal(0, cell, 1);
            x.freeze(v, 0, 0, 1);
            Due.due("it stands in another goal's x", x.solve(), 1);
            x.forget();
            x.equal(cell, 1);
            x.goal(0, 0, cell);
            Due.due("it stands in a goal's y", x.solve(), 1);
            x.forget();
            x.differ(0, cell);
            x.goal(1, inside, 0);
            Due.due("it stands inside a goal's x", x.solve(), 0);
            x.forget();
            x.goal(0, 0, 1);
            Due.due("no variable at all", x.solve(), 1);
        }
    }

    private static void looseThenMended() {
        FreezeDif x = Make.withRows(2);
        x.freeze(1, 0, 3, 1);
        Due.due("loose", x.solve(), FreezeDif.LOOSE);
        x.goal(0, 4, 4);
        Due.due("not loose any more", x.solve(), 0);
        x.forget();
        x.goal(0, 3, 1);
        Due.due("forget forgets the freezing", x.solve(), 1);
    }

    private static void cellsLeaveAQuerySolved() {
        FreezeDif x = Make.solved(2);
        x.atom(0);
        x.variable(0);
        x.pair(0, 0);
        Due.due("solutions", x.solutions(), 3);
        Due.due("value", x.valueOf(1, 1), 3);
    }

    private static void theMostSolutions() {
        FreezeDif x = Make.withCells(6);
        for (int row = 0; row < 6; row++) {
            x.addRow(2, row / 3, row % 3);
        }
        x.goal(2, 3, 4);
        x.goal(2, 5, 6);
        x.goal(2, 7, 8);
        x.goal(2, x.variable(0), x.variable(1));
        Due.due("goal 3 says what goal 0 does", x.solve(), 216);
        x.forget();
        int row = 0;
        for (int g = 0; g < 4; g++) {
            x.goal(2, 0, row);
        }
        Due.due("ground goals with one row each", x.solve(), 1);
        Due.due("its row", x.rowOf(0, 3), 0);
    }
}
