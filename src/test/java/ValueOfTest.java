/** Promise 13. Each test stands for the sentence, or the part of one, that is written over it. */
public final class ValueOfTest {
    public static void main(String[] args) {
        atoms();
        pairs();
        theLargestTerms();
        valuesOfEachSolution();
        aVariableOfAnyPlace();
        solutionsOutside();
        variablesOutside();
        variablesInNoGoal();
        noSolutionAndNoGoal();
        unsolvedIsTestedFirst();
        Due.finish();
    }

    /** The value of variable 0 when it stands for the term of a cell. */
    private static long written(FreezeDif x, int cell) {
        x.forget();
        x.addRow(0, cell, cell);
        x.goal(0, x.variable(0), cell);
        x.solve();
        return x.valueOf(0, 0);
    }

    /** "for each atom a the number becomes 18 * number + a + 1": 1 is the least there is. */
    private static void atoms() {
        for (int k = 0; k < 16; k++) {
            FreezeDif x = new FreezeDif(1);
            Due.due("atom " + k, written(x, x.atom(k)), k + 1);
        }
    }

    /** "a pair, then its first part, then its second part", "for each pair 18 * number + 17". */
    private static void pairs() {
        FreezeDif x = new FreezeDif(1);
        int a = x.atom(0);
        int p = x.atom(15);
        int ap = x.pair(a, p);
        Due.due("(a, p)", written(x, ap), (17 * 18 + 1) * 18 + 16);
        int left = x.pair(ap, a);
        Due.due("((a, p), a)", written(x, left), (((17 * 18 + 17) * 18 + 1) * 18 + 16) * 18 + 1);
        int right = x.pair(a, ap);
        Due.due("(a, (a, p))", written(x, right), (((17 * 18 + 1) * 18 + 17) * 18 + 1) * 18 + 16);
    }

    /** "Terms in rows have at most 13 cells, so the number fits": the greatest and the least. */
    private static void theLargestTerms() {
        int[] atoms = {0, 15};
        for (int k : atoms) {
            FreezeDif x = new FreezeDif(1);
            int leaf = x.atom(k);
            int left = leaf;
            int right = leaf;
            for (int i = 0; i < 6; i++) {
                left = x.pair(left, leaf);
                right = x.pair(leaf, right);
            }
            long leftDue = 0;
            long rightDue = 0;
            for (int i = 0; i < 13; i++) {
                leftDue = 18 * leftDue + (i < 6 ? 17 : k + 1);
                rightDue = 18 * rightDue + (i < 12 && i % 2 == 0 ? 17 : k + 1);
            }
            Due.due("13 cells, to the left, atom " + k, written(x, left), leftDue);
            Due.due("13 cells, to the right, atom " + k, written(x, right), rightDue);
        }
        // The digits 17 six times and 16 seven times, in base 18.
        FreezeDif x = new FreezeDif(1);
        int term = x.atom(15);
        for (int i = 0; i < 6; i++) {
            term = x.pair(term, 0);
        }
        Due.due("the greatest number", written(x, term), 20822964829658224L);
    }

    private static void valuesOfEachSolution() {
        FreezeDif x = Make.solved(3);
        for (int k = 0; k < 3; k++) {
            Due.due("variable 0 of " + k, x.valueOf(k, 0), k + 1);
            Due.due("variable 1 of " + k, x.valueOf(k, 1), (k + 1) % 3 + 1);
        }
        x.forget();
        int pair = x.pair(0, 1);
        x.addRow(1, x.pair(pair, 2), pair);
        x.goal(1, x.pair(5, 4), 5);
        Due.due("solve", x.solve(), 1);
        Due.due("a part of a row", x.valueOf(0, 2), (17 * 18 + 1) * 18 + 2);
        Due.due("the other part", x.valueOf(0, 1), 3);
    }

    /** "occurs in no goal's terms": x or y of any goal, plain or frozen, is a place to occur. */
    private static void aVariableOfAnyPlace() {
        for (int v = 0; v < 6; v++) {
            for (int at = 0; at < 8; at++) {
                FreezeDif x = Make.withRows(6);
                for (int g = 0; g < 4; g++) {
                    int s = at == 2 * g ? 3 + v : 1;
                    int t = at == 2 * g + 1 ? 3 + v : 2;
                    Due.due("goal", x.goal(0, s, t), g);
                }
                Due.due("solve", x.solve(), 1);
                Due.due("variable " + v + " at " + at, x.valueOf(0, v), at % 2 == 0 ? 2 : 3);
                Due.due("another variable", x.valueOf(0, (v + 1) % 6), FreezeDif.BAD);
            }
        }
    }

    /** "BAD if k is outside 0 .. solutions() - 1", with 1, 3 and 1296 solutions. */
    private static void solutionsOutside() {
        FreezeDif one = Make.withRows(1);
        one.goal(0, 3, 1);
        one.solve();
        kOutside(one, 1, 0);
        kOutside(Make.solved(2), 3, 1);
        kOutside(Make.mostSolutions(), 1296, 5);
    }

    private static void kOutside(FreezeDif x, int count, int v) {
        Due.due("solutions", x.solutions(), count);
        Due.due("the first", x.valueOf(0, v) > 0, true);
        Due.due("the last", x.valueOf(count - 1, v) > 0, true);
        for (int k : Make.outside(0, count - 1)) {
            Due.due("solution " + k + " of " + count, x.valueOf(k, v), FreezeDif.BAD);
        }
        Due.due("still solved", x.solutions(), count);
    }

    /** "or v is outside 0..V-1", for every V. */
    private static void variablesOutside() {
        for (int variables = 1; variables <= 6; variables++) {
            FreezeDif x = Make.withRows(variables);
            x.goal(0, 3, 1);
            x.goal(0, 3 + variables - 1, 1);
            x.solve();
            Due.due("the first variable", x.valueOf(0, 0), 1);
            Due.due("the last variable", x.valueOf(0, variables - 1), 1);
            for (int v : Make.outside(0, variables - 1)) {
                Due.due("variable " + v + " of " + variables, x.valueOf(0, v), FreezeDif.BAD);
            }
        }
    }

    /** "or v occurs in no goal's terms x or y", though it has cells or had a value before. */
    private static void variablesInNoGoal() {
        FreezeDif x = Make.solved(3);
        Due.due("a variable in no goal", x.valueOf(0, 2), FreezeDif.BAD);
        x.forget();
        x.goal(0, 5, 1);
        x.solve();
        Due.due("variables of the query before", x.valueOf(0, 0), FreezeDif.BAD);
        Due.due("variables of the query before", x.valueOf(0, 1), FreezeDif.BAD);
        Due.due("the variable of this query", x.valueOf(0, 2), 1);
        x.forget();
        x.goal(0, 0, 1);
        x.solve();
        for (int v = 0; v < 3; v++) {
            Due.due("a ground goal", x.valueOf(0, v), FreezeDif.BAD);
        }
    }

    /** Where there is no solution every k is outside, and without goals no variable occurs. */
    private static void noSolutionAndNoGoal() {
        FreezeDif none = State.NO_SOLUTION.make();
        FreezeDif noGoal = State.NO_QUERY_SOLVED.make();
        for (int n : Make.outside(0, -1)) {
            Due.due("no solution " + n, none.valueOf(n, 0), FreezeDif.BAD);
            Due.due("no goal, variable " + n, noGoal.valueOf(0, n), FreezeDif.BAD);
            Due.due("neither", noGoal.valueOf(n, n), FreezeDif.BAD);
        }
    }

    /** "Tested in this order: UNSOLVED ...; BAD ...". */
    private static void unsolvedIsTestedFirst() {
        for (State state : State.values()) {
            if (state.isSolved()) {
                continue;
            }
            FreezeDif x = state.make();
            Due.due(state + ", right numbers", x.valueOf(0, 0), FreezeDif.UNSOLVED);
            for (int wrong : Make.outside(0, 1)) {
                Due.due(state + ", solution " + wrong, x.valueOf(wrong, 0), FreezeDif.UNSOLVED);
                Due.due(state + ", variable " + wrong, x.valueOf(0, wrong), FreezeDif.UNSOLVED);
            }
        }
        FreezeDif x = Make.solved(2);
        x.differ(0, 1);
        Due.due("not solved any more", x.valueOf(0, 0), FreezeDif.UNSOLVED);
    }
}
