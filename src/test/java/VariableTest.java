/** Promise 3. */
public final class VariableTest {
    public static void main(String[] args) {
        everyVariableHasACell();
        cellsOfOneVariableAreTheSame();
        wrongNumbers();
        fullIsTestedFirst();
        Due.finish();
    }

    private static void everyVariableHasACell() {
        FreezeDif x = new FreezeDif(6);
        for (int v = 0; v < 6; v++) {
            Due.due("variable " + v, x.variable(v), v);
        }
        Due.due("a variable that is there", x.variable(2), 6);
    }

    private static void cellsOfOneVariableAreTheSame() {
        FreezeDif x = Make.withRows(2);
        int again = x.variable(0);
        x.goal(0, 3, 4);
        x.equal(3, again);
        Due.due("two cells of variable 0", x.solve(), 3);
        x.differ(again, 3);
        Due.due("they never differ", x.solve(), 0);
    }

    private static void wrongNumbers() {
        for (int count = 1; count <= 6; count++) {
            FreezeDif x = new FreezeDif(count);
            Due.due("variable -1", x.variable(-1), FreezeDif.BAD);
            Due.due("variable V", x.variable(count), FreezeDif.BAD);
            Due.due("variable MIN", x.variable(Integer.MIN_VALUE), FreezeDif.BAD);
            Due.due("variable MAX", x.variable(Integer.MAX_VALUE), FreezeDif.BAD);
            Due.due("no cell was made", x.variable(count - 1), 0);
        }
    }

    private static void fullIsTestedFirst() {
        FreezeDif x = new FreezeDif(2);
        for (int i = 0; i < 48; i++) {
            Due.due("cell " + i, x.variable(i % 2), i);
        }
        Due.due("the 49th cell", x.variable(0), FreezeDif.FULL);
        Due.due("full and wrong", x.variable(2), FreezeDif.FULL);
        Due.due("full and wrong", x.variable(-1), FreezeDif.FULL);
        Due.due("cells", x.clear(), 48);
    }
}
