/** Promise 1. Each test stands for the sentence, or the part of one, that is written over it. */
public final class NewObjectTest {
    public static void main(String[] args) {
        variablesAreClamped();
        noCells();
        emptyTables();
        emptyQuery();
        objectsAreApart();
        Due.finish();
    }

    /** "V is variables clamped into 1..6." */
    private static void variablesAreClamped() {
        int[] given = {Integer.MIN_VALUE, -256, -1, 0, 1, 2, 3, 4, 5, 6, 7, 8, 256, 65537,
            Integer.MAX_VALUE};
        int[] kept = {1, 1, 1, 1, 1, 2, 3, 4, 5, 6, 6, 6, 6, 6, 6};
        for (int i = 0; i < given.length; i++) {
            String made = "new FreezeDif(" + given[i] + "), ";
            FreezeDif x = new FreezeDif(given[i]);
            for (int v = 0; v < kept[i]; v++) {
                Due.due(made + "variable " + v, x.variable(v), v);
            }
            Due.due(made + "one too many", x.variable(kept[i]), FreezeDif.BAD);
            Due.due(made + "freeze on the last", x.freeze(kept[i] - 1, 0, 0, 0), 0);
            Due.due(made + "freeze on one more", x.freeze(kept[i], 0, 0, 0), FreezeDif.BAD);
        }
    }

    /** "No cells": cell 0 is no cell's number, and the first cell is number 0. */
    private static void noCells() {
        for (int variables = 1; variables <= 6; variables++) {
            FreezeDif x = new FreezeDif(variables);
            Due.due("pair", x.pair(0, 0), FreezeDif.BAD);
            Due.due("addRow", x.addRow(0, 0, 0), FreezeDif.BAD);
            Due.due("goal", x.goal(0, 0, 0), FreezeDif.BAD);
            Due.due("freeze", x.freeze(0, 0, 0, 0), FreezeDif.BAD);
            Due.due("equal", x.equal(0, 0), FreezeDif.BAD);
            Due.due("differ", x.differ(0, 0), FreezeDif.BAD);
            Due.due("clear", x.clear(), 0);
        }
        Due.due("an atom is first", new FreezeDif(1).atom(0), 0);
        Due.due("a variable is first", new FreezeDif(1).variable(0), 0);
    }

    /** "empty tables": no goal finds a row, and the first row is number 0. */
    private static void emptyTables() {
        FreezeDif x = Make.withCells(2);
        for (int table = 0; table < 4; table++) {
            x.goal(table, 3, 4);
            Due.due("a goal on table " + table, x.solve(), 0);
            x.forget();
        }
        for (int table = 0; table < 4; table++) {
            Due.due("first row of table " + table, x.addRow(table, 0, 0), 0);
        }
    }

    /** "empty query", and it is not solved. */
    private static void emptyQuery() {
        FreezeDif x = new FreezeDif(2);
        Due.due("solutions", x.solutions(), FreezeDif.UNSOLVED);
        Due.due("rowOf", x.rowOf(0, 0), FreezeDif.UNSOLVED);
        Due.due("valueOf", x.valueOf(0, 0), FreezeDif.UNSOLVED);
        Due.due("alike", x.alike(0, 0, 0), false);
        Due.due("goals", x.forget(), 0);
        Due.due("solve", x.solve(), 1);
        x.atom(0);
        Due.due("first goal", x.goal(0, 0, 0), 0);
        Due.due("first equation", x.equal(0, 0), 1);
        Due.due("first disequality", x.differ(0, 0), 1);
    }

    /** A new object is new whatever was done with another one. */
    private static void objectsAreApart() {
        FreezeDif one = Make.solved(2);
        FreezeDif other = new FreezeDif(1);
        Due.due("the other's cell", other.atom(0), 0);
        Due.due("the other's solutions", other.solutions(), FreezeDif.UNSOLVED);
        Due.due("the other's variables", other.variable(1), FreezeDif.BAD);
        Due.due("the one's solutions", one.solutions(), 3);
        Due.due("the one's variables", one.variable(1), 5);
    }
}
