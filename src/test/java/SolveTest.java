import java.util.function.Consumer;

/**
 * Promises 10 and 11. Each test stands for the sentence, or the part of one, that is written over
 * it; queries that are loose are in LooseTest.
 */
public final class SolveTest {
    public static void main(String[] args) {
        theFewestAndTheMostSolutions();
        solvingAgain();
        unsolvedBeforeSolve();
        whatMakesAQueryUnsolved();
        whatLeavesAQuerySolved();
        groundGoals();
        Due.finish();
    }

    /** "the number of its solutions is answered": none, one, and every choice of the most goals. */
    private static void theFewestAndTheMostSolutions() {
        FreezeDif x = Make.withRows(2);
        x.goal(0, 3, 3);
        Due.due("none", x.solve(), 0);
        Due.due("none, and it is solved", x.solutions(), 0);
        x.addRow(0, 2, 2);
        Due.due("one", x.solve(), 1);
        Due.due("one", x.solutions(), 1);
        x = Make.mostSolutions();
        Due.due("every choice is a solution", x.solve(), 1296);
        Due.due("solutions", x.solutions(), 1296);
        x.differ(8, 5);
        Due.due("one row less for goal 0", x.solve(), 1080);
        x.equal(11, 0);
        Due.due("one row for goal 3", x.solve(), 180);
    }

    /** "Solving a solved query answers the same number again." */
    private static void solvingAgain() {
        for (State state : State.values()) {
            FreezeDif x = state.make();
            for (int i = 0; i < 3 && state.isSolved(); i++) {
                Due.due(state + ", solve", x.solve(), state.solutions());
                Due.due(state + ", solutions", x.solutions(), state.solutions());
            }
        }
        FreezeDif x = Make.mostSolutions();
        Due.due("the most, again", x.solve(), 1296);
        Due.due("its last row", x.rowOf(1295, 3), 5);
    }

    /** "UNSOLVED if the query is not solved." */
    private static void unsolvedBeforeSolve() {
        for (State state : State.values()) {
            int want = state.isSolved() ? state.solutions() : FreezeDif.UNSOLVED;
            FreezeDif x = state.make();
            Due.due(state + ", solutions", x.solutions(), want);
            Due.due(state + ", solutions, again", x.solutions(), want);
        }
    }

    private static void unsolvedBy(String call, Consumer<FreezeDif> made) {
        FreezeDif x = Make.solved(2);
        Due.due("before " + call, x.solutions(), 3);
        made.accept(x);
        Due.due("after " + call, x.solutions(), FreezeDif.UNSOLVED);
    }

    private static void whatMakesAQueryUnsolved() {
        unsolvedBy("addRow", x -> x.addRow(3, 0, 0));
        unsolvedBy("goal", x -> x.goal(0, 3, 4));
        unsolvedBy("freeze", x -> x.freeze(0, 0, 3, 4));
        unsolvedBy("equal", x -> x.equal(0, 0));
        unsolvedBy("differ", x -> x.differ(0, 1));
        unsolvedBy("forget", x -> x.forget());
        unsolvedBy("clear", x -> x.clear());
    }

    /** No promise lets these calls change a query; making cells is among them. */
    private static void whatLeavesAQuerySolved() {
        FreezeDif x = Make.solved(2);
        x.atom(0);
        x.variable(0);
        x.pair(0, 0);
        Due.due("after new cells", x.solutions(), 3);
        x.rowOf(0, 0);
        x.rowOf(3, 0);
        x.valueOf(0, 0);
        x.valueOf(0, 2);
        x.alike(0, 1, 3);
        x.alike(0, 3, 3);
        Due.due("after questions", x.solutions(), 3);
        Due.due("value", x.valueOf(1, 1), 3);
    }

    private static void groundGoals() {
        FreezeDif x = Make.withRows(1);
        for (int g = 0; g < 4; g++) {
            x.goal(0, g % 3, (g + 1) % 3);
        }
        Due.due("one row each", x.solve(), 1);
        for (int g = 0; g < 4; g++) {
            Due.due("goal " + g, x.rowOf(0, g), g % 3);
        }
        x.forget();
        x.goal(0, 0, 0);
        Due.due("no such row", x.solve(), 0);
    }
}
