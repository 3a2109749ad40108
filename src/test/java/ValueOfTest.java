/** Promise 13. */
public final class ValueOfTest {
    public static void main(String[] args) {
        atoms();
        pairs();
        theLargestTerms();
        valuesOfEachSolution();
        wrongArguments();
        unsolvedIsTestedFirst();
        Due.finish();
    }

    /** The value of variable 0 when it stands for the term of a cell. */
    private static long written(FreezeDif x, int cell) {
        x.forget();
        x.addRow(0, cell, cell);
        x.goal(0, x.variable(0), cell);
        x.solve();
        return x.valueOf(0, 0);
    }

    private static void atoms() {
        for (int k = 0; k < 16; k++) {
            FreezeDif x = new FreezeDif(1);
            Due.due("atom " + k, written(x, x.atom(k)), k + 1);
        }
    }

    private static void pairs() {
        FreezeDif x = new FreezeDif(1);
        int a = x.atom(0);
        int p = x.atom(15);
        int ap = x.pair(a, p);
        Due.due("(a, p)", written(x, ap), (17 * 18 + 1) * 18 + 16);
        int left = x.pair(ap, a);
        Due.due("((a, p), a)", written(x, left), (((17 * 18 + 17) * 18 + 1) * 18 + 16) * 18 + 1);
        int right = x.pair(a, ap);
        Due.due("(a, (a, p))", written(x, right), (((17 * 18 + 1) * 18 + 17) * 18 + 1) * 18 + 16);
    }

    private static void theLargestTerms() {
        FreezeDif x = new FreezeDif(1);
        int p = x.atom(15);
        int left = p;
        int right = p;
        for (int i = 0; i < 6; i++) {
            left = x.pair(left, p);
            right = x.pair(p, right);
        }
        long leftDue = 0;
        long rightDue = 0;
        for (int i = 0; i < 13; i++) {
            leftDue = 18 * leftDue + (i < 6 ? 17 : 16);
            rightDue = 18 * rightDue + (i < 12 && i % 2 == 0 ? 17 : 16);
        }
        Due.due("13 cells, to the left", written(x, left), leftDue);
        Due.due("13 cells, to the right", written(x, right), rightDue);
    }

    private static void valuesOfEachSolution() {
        FreezeDif x = Make.solved(3);
        for (int k = 0; k < 3; k++) {
            Due.due("variable 0 of " + k, x.valueOf(k, 0), k + 1);
            Due.due("variable 1 of " + k, x.valueOf(k, 1), (k + 1) % 3 + 1);
        }
        x.forget();
        int pair = x.pair(0, 1);
        x.addRow(1, x.pair(pair, 2), pair);
        x.goal(1, x.pair(5, 4), 5);
        Due.due("solve", x.solve(), 1);
        Due.due("a part of a row", x.valueOf(0, 2), (17 * 18 + 1) * 18 + 2);
        Due.due("the other part", x.valueOf(0, 1), 3);
    }

    private static void wrongArguments() {
        FreezeDif x = Make.solved(3);
        Due.due("solution 3", x.valueOf(3, 0), FreezeDif.BAD);
        Due.due("a variable in no goal", x.valueOf(0, 2), FreezeDif.BAD);
        Due.due("variable V", x.valueOf(0, 3), FreezeDif.BAD);
        Due.due("variable 32", x.valueOf(0, 32), FreezeDif.BAD);
        for (int wild : Make.WILD) {
            Due.due("solution " + wild, x.valueOf(wild, 0), FreezeDif.BAD);
            Due.due("variable " + wild, x.valueOf(0, wild), FreezeDif.BAD);
        }
        x.equal(0, 1);
        x.solve();
        Due.due("no solution", x.valueOf(0, 0), FreezeDif.BAD);
        x.forget();
        x.solve();
        Due.due("no goal", x.valueOf(0, 0), FreezeDif.BAD);
        x.forget();
        x.goal(0, 5, 5);
        x.addRow(0, 0, 0);
        x.solve();
        Due.due("a variable of the query before", x.valueOf(0, 0), FreezeDif.BAD);
        Due.due("the variable of this query", x.valueOf(0, 2), 1);
    }

    private static void unsolvedIsTestedFirst() {
        FreezeDif x = Make.withRows(2);
        Due.due("new", x.valueOf(0, 0), FreezeDif.UNSOLVED);
        x.goal(0, 3, 4);
        Due.due("not solved yet", x.valueOf(0, 0), FreezeDif.UNSOLVED);
        Due.due("and wrong", x.valueOf(-1, 9), FreezeDif.UNSOLVED);
        x.solve();
        x.differ(0, 1);
        Due.due("not solved any more", x.valueOf(0, 0), FreezeDif.UNSOLVED);
    }
}
