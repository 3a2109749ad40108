/** Promise 14. */
public final class AlikeTest {
    public static void main(String[] args) {
        theVariablesOfTheMask();
        everyVariableCanDiffer();
        theSameTermInOtherCells();
        bitsThatPlayNoPart();
        wrongArguments();
        notSolved();
        Due.finish();
    }

    /** Solutions 0 and 1 have the same variable 0, solutions 0 and 2 the same variable 1. */
    private static FreezeDif square(int variables) {
        FreezeDif x = Make.withCells(variables);
        x.addRow(0, 0, 0);
        x.addRow(0, 0, 1);
        x.addRow(0, 1, 0);
        x.goal(0, 3, 4);
        x.solve();
        return x;
    }

    private static void theVariablesOfTheMask() {
        FreezeDif x = square(2);
        int[] calls = {
            // j, k, mask, due
            0, 1, 0, 1, 0, 1, 1, 1, 0, 1, 2, 0, 0, 1, 3, 0,
            0, 2, 0, 1, 0, 2, 1, 0, 0, 2, 2, 1, 0, 2, 3, 0,
            1, 2, 0, 1, 1, 2, 1, 0, 1, 2, 2, 0, 1, 2, 3, 0,
        };
        for (int i = 0; i < calls.length; i += 4) {
            int j = calls[i];
            int k = calls[i + 1];
            int mask = calls[i + 2];
            String call = "alike " + j + " " + k + " " + mask;
            Due.due(call, x.alike(j, k, mask), calls[i + 3] == 1);
            Due.due(call + " turned round", x.alike(k, j, mask), calls[i + 3] == 1);
            Due.due("with itself", x.alike(j, j, mask), true);
        }
    }

    private static void everyVariableCanDiffer() {
        for (int v = 0; v < 6; v++) {
            FreezeDif x = Make.withCells(6);
            x.addRow(0, 0, 0);
            x.addRow(0, 0, 1);
            x.goal(0, 0, 3 + v);
            Due.due("solve", x.solve(), 2);
            Due.due("its bit", x.alike(0, 1, 1 << v), false);
            Due.due("all bits", x.alike(0, 1, -1), false);
            Due.due("all other bits", x.alike(0, 1, ~(1 << v)), true);
        }
    }

    private static void theSameTermInOtherCells() {
        FreezeDif x = Make.withCells(2);
        int one = x.pair(0, 1);
        int other = x.pair(x.atom(0), x.atom(1));
        int turned = x.pair(1, 0);
        x.addRow(0, one, 0);
        x.addRow(0, other, 1);
        x.addRow(0, turned, 0);
        x.goal(0, 3, 4);
        x.solve();
        Due.due("the same pair", x.alike(0, 1, 1), true);
        Due.due("a pair the other way round", x.alike(0, 2, 1), false);
    }

    private static void bitsThatPlayNoPart() {
        FreezeDif x = Make.solved(5);
        x.forget();
        x.addRow(1, 0, 0);
        x.addRow(1, 0, 1);
        x.goal(1, 5, 6);
        Due.due("solve", x.solve(), 2);
        Due.due("variables of the query before", x.alike(0, 1, 3), true);
        Due.due("a variable of no query", x.alike(0, 1, 16), true);
        Due.due("bit V and above", x.alike(0, 1, -32), true);
        Due.due("the lowest number", x.alike(0, 1, Integer.MIN_VALUE), true);
        Due.due("all but the differing one", x.alike(0, 1, ~8), true);
        Due.due("the differing one", x.alike(0, 1, 8), false);
        x.forget();
        x.solve();
        Due.due("the empty query's one solution", x.alike(0, 0, -1), true);
    }

    private static void wrongArguments() {
        FreezeDif x = square(2);
        Due.due("j is 3", x.alike(3, 0, 0), false);
        Due.due("k is 3", x.alike(0, 3, 0), false);
        Due.due("both are 3", x.alike(3, 3, 0), false);
        for (int wild : Make.WILD) {
            Due.due("j is " + wild, x.alike(wild, 0, 0), false);
            Due.due("k is " + wild, x.alike(0, wild, 0), false);
            Due.due("both are " + wild, x.alike(wild, wild, 0), false);
        }
        x.equal(0, 1);
        x.solve();
        Due.due("no solution", x.alike(0, 0, 0), false);
    }

    private static void notSolved() {
        FreezeDif x = new FreezeDif(2);
        Due.due("new", x.alike(0, 0, 0), false);
        x = square(2);
        x.addRow(3, 0, 0);
        Due.due("not solved any more", x.alike(0, 0, 0), false);
        x.solve();
        Due.due("solved again", x.alike(0, 0, 0), true);
    }
}
