/** Promise 14. Each test stands for the sentence, or the part of one, that is written over it. */
public final class AlikeTest {
    public static void main(String[] args) {
        theVariablesOfTheMask();
        everyVariableCanDiffer();
        theSameTermInOtherCells();
        bitsAboveTheVariables();
        variablesInNoGoal();
        theMostSolutions();
        solutionsOutside();
        noSolutionAndNoGoal();
        notSolved();
        Due.finish();
    }

    /** Solutions 0 and 1 have the same variable 0, solutions 0 and 2 the same variable 1. */
    private static FreezeDif square(int variables) {
        FreezeDif x = Make.withCells(variables);
        x.addRow(0, 0, 0);
        x.addRow(0, 0, 1);
        x.addRow(0, 1, 0);
        x.goal(0, 3, 4);
        x.solve();
        return x;
    }

    /** "to every variable in the set 'mask'"; the empty set asks for nothing. */
    private static void theVariablesOfTheMask() {
        FreezeDif x = square(2);
        int[] calls = {
            // j, k, mask, due
            0, 1, 0, 1, 0, 1, 1, 1, 0, 1, 2, 0, 0, 1, 3, 0,
            0, 2, 0, 1, 0, 2, 1, 0, 0, 2, 2, 1, 0, 2, 3, 0,
            1, 2, 0, 1, 1, 2, 1, 0, 1, 2, 2, 0, 1, 2, 3, 0,
        };
        for (int i = 0; i < calls.length; i += 4) {
            int j = calls[i];
            int k = calls[i + 1];
            int mask = calls[i + 2];
            String call = "alike " + j + " " + k + " " + mask;
            Due.due(call, x.alike(j, k, mask), calls[i + 3] == 1);
            Due.due(call + " turned round", x.alike(k, j, mask), calls[i + 3] == 1);
            Due.due("with itself", x.alike(j, j, mask), true);
        }
    }

    /** "bit v speaks of variable v", for the first and the last and all between. */
    private static void everyVariableCanDiffer() {
        for (int v = 0; v < 6; v++) {
            FreezeDif x = Make.withCells(6);
            x.addRow(0, 0, 0);
            x.addRow(0, 0, 1);
            x.goal(0, 0, 3 + v);
            Due.due("solve", x.solve(), 2);
            for (int bit = 0; bit < 32; bit++) {
                Due.due("bit " + bit + ", variable " + v, x.alike(0, 1, 1 << bit), bit != v);
            }
            Due.due("all bits", x.alike(0, 1, -1), false);
            Due.due("all bits but the sign", x.alike(0, 1, Integer.MAX_VALUE), false);
            Due.due("all other bits", x.alike(0, 1, ~(1 << v)), true);
        }
    }

    /** "the same ground term", whatever cells it stands in. */
    private static void theSameTermInOtherCells() {
        FreezeDif x = Make.withCells(2);
        int one = x.pair(0, 1);
        int other = x.pair(x.atom(0), x.atom(1));
        int turned = x.pair(1, 0);
        x.addRow(0, one, 0);
        x.addRow(0, other, 1);
        x.addRow(0, turned, 0);
        x.goal(0, 3, 4);
        x.solve();
        Due.due("the same pair", x.alike(0, 1, 1), true);
        Due.due("a pair the other way round", x.alike(0, 2, 1), false);
    }

    /** "bits for numbers V and above ... play no part", for every V. */
    private static void bitsAboveTheVariables() {
        for (int variables = 1; variables <= 6; variables++) {
            int last = variables - 1;
            FreezeDif x = Make.withCells(variables);
            x.addRow(0, 0, 0);
            x.addRow(0, 1, 0);
            x.goal(0, 3 + last, 0);
            Due.due("solve", x.solve(), 2);
            Due.due("bit V-1", x.alike(0, 1, 1 << last), false);
            Due.due("bits V-1 and above", x.alike(0, 1, -1 << last), false);
            Due.due("bit V", x.alike(0, 1, 1 << variables), true);
            Due.due("bits V and above", x.alike(0, 1, -1 << variables), true);
            Due.due("the sign alone", x.alike(0, 1, Integer.MIN_VALUE), true);
            Due.due("the sign and bit V-1", x.alike(0, 1, Integer.MIN_VALUE | 1 << last), false);
        }
    }

    /** "and for variables that occur in no goal's terms", though they had values before. */
    private static void variablesInNoGoal() {
        FreezeDif x = Make.solved(5);
        Due.due("they differed before", x.alike(0, 1, 1), false);
        x.forget();
        x.addRow(1, 0, 0);
        x.addRow(1, 0, 1);
        x.goal(1, 5, 6);
        Due.due("solve", x.solve(), 2);
        Due.due("variables of the query before", x.alike(0, 1, 3), true);
        Due.due("a variable of no query", x.alike(0, 1, 16), true);
        Due.due("all but the differing one", x.alike(0, 1, ~8), true);
        Due.due("the differing one", x.alike(0, 1, 8), false);
    }

    private static void theMostSolutions() {
        FreezeDif x = Make.mostSolutions();
        Due.due("the first and the last, variable 2", x.alike(0, 1295, 4), false);
        Due.due("the first and the last, no variable of a goal", x.alike(0, 1295, 3), true);
        Due.due("the last two, variables 2 to 4", x.alike(1294, 1295, 28), true);
        Due.due("the last two, variable 5", x.alike(1294, 1295, 32), false);
        Due.due("0 and 216, variables 3 to 5", x.alike(0, 216, 56), true);
        Due.due("the last with itself", x.alike(1295, 1295, -1), true);
    }

    /** "False if ... j or k is outside 0 .. solutions() - 1", with 1, 3 and 1296 solutions. */
    private static void solutionsOutside() {
        FreezeDif one = Make.withRows(1);
        one.goal(0, 3, 1);
        one.solve();
        outside(one, 1);
        outside(square(2), 3);
        outside(Make.mostSolutions(), 1296);
    }

    private static void outside(FreezeDif x, int count) {
        Due.due("solutions", x.solutions(), count);
        Due.due("the first and the last", x.alike(0, count - 1, 0), true);
        Due.due("the last and the first", x.alike(count - 1, 0, 0), true);
        for (int wrong : Make.outside(0, count - 1)) {
            Due.due("j is " + wrong, x.alike(wrong, 0, 0), false);
            Due.due("k is " + wrong, x.alike(0, wrong, 0), false);
            Due.due("both are " + wrong, x.alike(wrong, wrong, 0), false);
        }
        Due.due("still solved", x.solutions(), count);
    }

    private static void noSolutionAndNoGoal() {
        FreezeDif none = State.NO_SOLUTION.make();
        for (int wrong : Make.outside(0, -1)) {
            Due.due("no solution", none.alike(wrong, wrong, 0), false);
        }
        FreezeDif noGoal = State.NO_QUERY_SOLVED.make();
        Due.due("the empty query's one solution", noGoal.alike(0, 0, -1), true);
        Due.due("it has no other", noGoal.alike(0, 1, 0), false);
    }

    /** "False if the query is not solved". */
    private static void notSolved() {
        for (State state : State.values()) {
            FreezeDif x = state.make();
            boolean want = state.isSolved() && state.solutions() > 0;
            Due.due(state + ", no bits", x.alike(0, 0, 0), want);
            Due.due(state + ", all bits", x.alike(0, 0, -1), want);
        }
        FreezeDif x = square(2);
        x.addRow(3, 0, 0);
        Due.due("not solved any more", x.alike(0, 0, 0), false);
        x.solve();
        Due.due("solved again", x.alike(0, 0, 0), true);
    }
}
