/** Promises 10 and 11, and of "Terms" what a choice, a solution and a loose query are. */
public final class SolveTest {
    public static void main(String[] args) {
        aQueryWithoutGoals();
        solvingAgain();
        looseQueries();
        queriesThatAreNotLoose();
        looseThenMended();
        cellsLeaveAQuerySolved();
        everyPlaceCanBeLoose();
        theMostSolutions();
        groundGoals();
        Due.finish();
    }

    private static void aQueryWithoutGoals() {
        FreezeDif x = new FreezeDif(2);
        Due.due("solutions before", x.solutions(), FreezeDif.UNSOLVED);
        Due.due("the empty query", x.solve(), 1);
        Due.due("solutions after", x.solutions(), 1);
        x.atom(0);
        x.atom(1);
        x.equal(0, 1);
        Due.due("an equation that does not hold", x.solve(), 0);
        Due.due("solutions", x.solutions(), 0);
    }

    private static void solvingAgain() {
        FreezeDif x = Make.solved(2);
        for (int i = 0; i < 3; i++) {
            Due.due("solve", x.solve(), 3);
            Due.due("solutions", x.solutions(), 3);
        }
        Due.due("row", x.rowOf(2, 0), 2);
    }

    private static void looseQueries() {
        for (int v = 0; v < 6; v++) {
            int cell = 3 + v;
            FreezeDif x = Make.withRows(6);
            int inside = x.pair(0, x.pair(cell, 1));
            x.freeze(v, 0, 0, 1);
            loose(x, "frozen on it alone");
            x.equal(cell, 0);
            loose(x, "left in an equation");
            x.equal(0, inside);
            loose(x, "right in an equation, inside");
            x.differ(inside, 0);
            loose(x, "left in a disequality, inside");
            x.differ(0, cell);
            loose(x, "right in a disequality");
            x.equal(cell, cell);
            loose(x, "an equation that holds anyhow");
            x.goal(0, 3 + (v + 1) % 6, 1);
            x.differ(cell, 0);
            loose(x, "a goal with another variable");
            x.goal(3, 0, 0);
            x.equal(cell, 0);
            loose(x, "a goal with an empty table");
        }
    }

    private static void loose(FreezeDif x, String what) {
        Due.due(what, x.solve(), FreezeDif.LOOSE);
        Due.due(what + ", again", x.solve(), FreezeDif.LOOSE);
        Due.due(what + ", solutions", x.solutions(), FreezeDif.UNSOLVED);
        x.forget();
    }

    private static void queriesThatAreNotLoose() {
        for (int v = 0; v < 6; v++) {
            int cell = 3 + v;
            FreezeDif x = Make.withRows(6);
            x.addRow(1, x.pair(0, 1), 0);
            int inside = x.pair(cell, 1);
            x.goal(0, cell, 1);
            x.freeze(v, 0, 0, 1);
            Due.due("it stands in another goal's x", x.solve(), 1);
            x.forget();
            x.equal(cell, 1);
            x.goal(0, 0, cell);
            Due.due("it stands in a goal's y", x.solve(), 1);
            x.forget();
            x.differ(0, cell);
            x.goal(1, inside, 0);
            Due.due("it stands inside a goal's x", x.solve(), 0);
            x.forget();
            x.goal(0, 0, 1);
            Due.due("no variable at all", x.solve(), 1);
        }
    }

    private static void looseThenMended() {
        FreezeDif x = Make.withRows(2);
        x.freeze(1, 0, 3, 1);
        Due.due("loose", x.solve(), FreezeDif.LOOSE);
        x.goal(0, 4, 4);
        Due.due("not loose any more", x.solve(), 0);
        x.forget();
        x.goal(0, 3, 1);
        Due.due("forget forgets the freezing", x.solve(), 1);
    }

    private static void cellsLeaveAQuerySolved() {
        FreezeDif x = Make.solved(2);
        x.atom(0);
        x.variable(0);
        x.pair(0, 0);
        Due.due("solutions", x.solutions(), 3);
        Due.due("value", x.valueOf(1, 1), 3);
    }

    private static void everyPlaceCanBeLoose() {
        for (int at = 0; at < 4; at++) {
            FreezeDif x = Make.withRows(2);
            for (int i = 0; i < 4; i++) {
                x.freeze(i == at ? 1 : 0, 0, 3, 1);
            }
            loose(x, "frozen goal " + at);
            x.goal(0, 3, 1);
            for (int i = 0; i < 4; i++) {
                x.equal(3, i == at ? 4 : 3);
            }
            loose(x, "equation " + at);
        }
        for (int at = 0; at < 6; at++) {
            FreezeDif x = Make.withRows(2);
            x.goal(0, 3, 1);
            for (int i = 0; i < 6; i++) {
                x.differ(i == at ? 4 : 3, 2);
            }
            loose(x, "disequality " + at);
        }
        FreezeDif x = Make.withRows(3);
        x.freeze(1, 0, 3, 1);
        x.equal(3, 3);
        x.differ(3, 2);
        loose(x, "the freezing, with an equation and a disequality that are not");
        x.goal(0, 3, 1);
        x.equal(4, 4);
        x.differ(3, 2);
        loose(x, "the equation, with a disequality that is not");
    }

    private static void theMostSolutions() {
        FreezeDif x = new FreezeDif(6);
        for (int k = 0; k < 6; k++) {
            x.atom(k);
        }
        for (int row = 0; row < 6; row++) {
            x.addRow(2, 0, row);
        }
        for (int g = 0; g < 4; g++) {
            x.goal(2, 0, x.variable(g + 2));
        }
        Due.due("every choice is a solution", x.solve(), 1296);
        Due.due("solutions", x.solutions(), 1296);
        int[] picked = {0, 1, 215, 216, 700, 1294, 1295};
        for (int k : picked) {
            int weight = 216;
            for (int g = 0; g < 4; g++) {
                Due.due("row of " + k, x.rowOf(k, g), k / weight % 6);
                Due.due("value of " + k, x.valueOf(k, g + 2), k / weight % 6 + 1);
                weight /= 6;
            }
        }
        Due.due("one too many", x.rowOf(1296, 0), FreezeDif.BAD);
        Due.due("the last two, variable 4", x.alike(1294, 1295, 16), true);
        Due.due("the last two, variable 5", x.alike(1294, 1295, 32), false);
    }

    private static void groundGoals() {
        FreezeDif x = Make.withRows(1);
        for (int g = 0; g < 4; g++) {
            x.goal(0, g % 3, (g + 1) % 3);
        }
        Due.due("one row each", x.solve(), 1);
        for (int g = 0; g < 4; g++) {
            Due.due("goal " + g, x.rowOf(0, g), g % 3);
        }
        x.forget();
        x.goal(0, 0, 0);
        Due.due("no such row", x.solve(), 0);
    }
}
