/** Promise 3. Each test stands for the sentence, or the part of one, that is written over it. */
public final class VariableTest {
    public static void main(String[] args) {
        everyVariableIsTaken();
        numbersOutside();
        theLastCell();
        cellsOfAllKindsCount();
        fullIsTestedFirst();
        cellsOfOneVariable();
        Due.finish();
    }

    /** "Else answers the new cell's number", for every v of 0..V-1. */
    private static void everyVariableIsTaken() {
        for (int variables = 1; variables <= 6; variables++) {
            FreezeDif x = new FreezeDif(variables);
            for (int v = 0; v < variables; v++) {
                Due.due("variable " + v + " of " + variables, x.variable(v), v);
            }
        }
    }

    /** "v outside 0..V-1: BAD", and no cell is made. */
    private static void numbersOutside() {
        for (int variables = 1; variables <= 6; variables++) {
            for (int v : Make.outside(0, variables - 1)) {
                FreezeDif x = new FreezeDif(variables);
                Due.due("variable " + v + " of " + variables, x.variable(v), FreezeDif.BAD);
                Due.due("cells", x.clear(), 0);
                Due.due("the first cell", x.variable(variables - 1), 0);
            }
        }
    }

    /** "48 cells are there: FULL", and with 47 there is room for one more. */
    private static void theLastCell() {
        for (int variables = 1; variables <= 6; variables++) {
            FreezeDif x = Make.atoms(variables, 46);
            Due.due("the 47th cell", x.variable(0), 46);
            Due.due("the 48th cell", x.variable(variables - 1), 47);
            Due.due("the 49th cell", x.variable(0), FreezeDif.FULL);
            Due.due("the 49th cell", x.variable(variables - 1), FreezeDif.FULL);
            Due.due("cells", x.clear(), 48);
        }
        FreezeDif x = new FreezeDif(6);
        for (int cell = 0; cell < 48; cell++) {
            Due.due("variables alone", x.variable(cell % 6), cell);
        }
        Due.due("one more", x.variable(0), FreezeDif.FULL);
    }

    /** "48 cells are there", of whatever kind. */
    private static void cellsOfAllKindsCount() {
        FreezeDif x = Make.mixedCells(47);
        Due.due("47 mixed cells there", x.variable(0), 47);
        Due.due("48 mixed cells there", x.variable(0), FreezeDif.FULL);
    }

    /** Promise 17: "FULL is tested before BAD, as in atom"; one cell less, and it is BAD. */
    private static void fullIsTestedFirst() {
        for (int variables = 1; variables <= 6; variables++) {
            for (int v : Make.outside(0, variables - 1)) {
                FreezeDif x = Make.atoms(variables, 47);
                Due.due("47 cells, variable " + v, x.variable(v), FreezeDif.BAD);
                Due.due("the 48th cell", x.variable(0), 47);
                Due.due("48 cells, variable " + v, x.variable(v), FreezeDif.FULL);
                Due.due("cells", x.clear(), 48);
            }
        }
    }

    /** A variable may have many cells, and they all stand for the same value. */
    private static void cellsOfOneVariable() {
        FreezeDif x = Make.withRows(2);
        int again = x.variable(0);
        x.goal(0, 3, 4);
        x.equal(3, again);
        Due.due("two cells of variable 0", x.solve(), 3);
        x.differ(again, 3);
        Due.due("they never differ", x.solve(), 0);
    }
}
