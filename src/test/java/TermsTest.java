/**
 * The section "Terms". Each test stands for the sentence, or the part of one, that is written over
 * it; sizes are in PairTest, the numbering of solutions in RowOfTest, loose queries in LooseTest.
 */
public final class TermsTest {
    public static void main(String[] args) {
        cellsAreNumberedFromZero();
        aTermWithAVariableIsNotGround();
        atomsThatAreTheSame();
        pairsThatAreTheSame();
        everyLeafCounts();
        everyShapeCounts();
        cellsAreNeverTakenAway();
        fourTablesOfSixRows();
        everyPlaceOfAFullQueryCounts();
        aFrozenGoalMeansTheSame();
        aChoiceForEveryGoal();
        noChoiceFromAnEmptyTable();
        aQueryWithoutGoals();
        termsThatGrowWhenReplaced();
        Due.finish();
    }

    /** "cells numbered from 0 in the order of their making", up to 47. */
    private static void cellsAreNumberedFromZero() {
        FreezeDif x = new FreezeDif(2);
        for (int cell = 0; cell < 48; cell += 3) {
            Due.due("an atom", x.atom(cell / 3), cell);
            Due.due("a variable", x.variable(cell % 2), cell + 1);
            Due.due("a pair", x.pair(cell + 1, cell), cell + 2);
        }
    }

    /** A chain of 6 pairs over 7 leaves, to the left or to the right; answers its cell. */
    private static int chain(FreezeDif x, int[] leaves, boolean toTheLeft) {
        int term = leaves[toTheLeft ? 0 : 6];
        for (int i = 1; i <= 6; i++) {
            term = toTheLeft ? x.pair(term, leaves[i]) : x.pair(leaves[6 - i], term);
        }
        return term;
    }

    /** The leaves are cell 0 but for the one at a place. */
    private static int[] leaves(int place, int cell) {
        int[] leaves = new int[7];
        leaves[place] = cell;
        return leaves;
    }

    /** "A term is GROUND iff no variable occurs in it", at whatever place, whichever variable. */
    private static void aTermWithAVariableIsNotGround() {
        for (int v = 0; v < 6; v++) {
            for (int place = 0; place < 7; place++) {
                FreezeDif x = new FreezeDif(6);
                x.atom(0);
                x.variable(v);
                for (int side = 0; side < 2; side++) {
                    int term = chain(x, leaves(place, 1), side == 0);
                    int ground = chain(x, leaves(place, 0), side == 0);
                    Due.due("a variable at " + place, x.addRow(0, term, 0), FreezeDif.BAD);
                    Due.due("a variable at " + place, x.addRow(0, 0, term), FreezeDif.BAD);
                    Due.due("no variable", x.addRow(0, ground, ground), side);
                }
                Due.due("the variable itself", x.addRow(0, 1, 0), FreezeDif.BAD);
            }
        }
    }

    /** Whether the terms are the same, as an equation and a disequality tell it. */
    private static void same(FreezeDif x, String what, int s, int t, boolean want) {
        x.forget();
        x.equal(s, t);
        Due.due(what + ", equation", x.solve(), want ? 1 : 0);
        x.forget();
        x.differ(s, t);
        Due.due(what + ", disequality", x.solve(), want ? 0 : 1);
    }

    /** "the same iff they are the same atom ... (which cells they stand in plays no part)". */
    private static void atomsThatAreTheSame() {
        FreezeDif x = new FreezeDif(1);
        for (int cell = 0; cell < 32; cell++) {
            x.atom(cell % 16);
        }
        for (int k = 0; k < 16; k++) {
            same(x, "atom " + k + " in two cells", k, 16 + k, true);
            same(x, "atom " + k + " and the next", k, 16 + (k + 1) % 16, false);
        }
        same(x, "atoms 0 and 8", 0, 8, false);
    }

    /** "or both are pairs with the same first and the same second part". */
    private static void pairsThatAreTheSame() {
        FreezeDif x = Make.withCells(1);
        int ab = x.pair(0, 1);
        int otherAb = x.pair(x.atom(0), x.atom(1));
        same(x, "a pair in two cells", ab, otherAb, true);
        same(x, "only the second is the same", ab, x.pair(2, 1), false);
        same(x, "only the first is the same", ab, x.pair(0, 2), false);
        same(x, "the parts changed over", ab, x.pair(1, 0), false);
        same(x, "a pair and its first part", ab, 0, false);
        same(x, "a pair and its second part", 1, ab, false);
        same(x, "pairs of pairs in other cells", x.pair(ab, ab), x.pair(otherAb, ab), true);
        same(x, "pairs of pairs", x.pair(ab, 0), x.pair(0, ab), false);
    }

    /** "the same first and the same second part", down to every leaf of the largest terms. */
    private static void everyLeafCounts() {
        for (int place = 0; place < 7; place++) {
            for (int side = 0; side < 2; side++) {
                FreezeDif x = Make.withCells(1);
                int one = chain(x, leaves(place, 0), side == 0);
                int same = chain(x, leaves(place, x.atom(0)), side == 0);
                int other = chain(x, leaves(place, 1), side == 0);
                same(x, "the same leaf at " + place, one, same, true);
                same(x, "another leaf at " + place, one, other, false);
                Due.due("a row", x.addRow(0, one, one), 0);
                Due.due("the same row", x.addRow(0, same, one), FreezeDif.BAD);
                Due.due("another row", x.addRow(0, other, one), 1);
            }
        }
    }

    /** Terms with the same leaves are not the same where pairs stand in other places. */
    private static void everyShapeCounts() {
        FreezeDif x = new FreezeDif(1);
        int a = x.atom(0);
        int two = x.pair(a, a);
        int left = x.pair(two, a);
        int right = x.pair(a, two);
        x.pair(left, a);
        x.pair(right, a);
        x.pair(two, two);
        x.pair(a, left);
        int last = x.pair(a, right);
        for (int s = 0; s <= last; s++) {
            for (int t = 0; t < s; t++) {
                same(x, "shapes " + s + " and " + t, s, t, false);
            }
        }
    }

    /** "Cells are never taken away, except by clear()." */
    private static void cellsAreNeverTakenAway() {
        FreezeDif x = State.FULL.make();
        x.solve();
        x.forget();
        Due.due("the first cell is there", x.equal(0, 0), 1);
        Due.due("the last cell is there", x.goal(0, 47, 47), 0);
        x.forget();
        x.goal(3, 3, 4);
        x.solve();
        Due.due("no room for another", x.atom(0), FreezeDif.FULL);
        Due.due("clear", x.clear(), 48);
        Due.due("no cell is there", x.equal(0, 0), FreezeDif.BAD);
        Due.due("room again", x.atom(0), 0);
    }

    /** "there are four tables, 0..3, each a list of up to 6 rows", each with rows of its own. */
    private static void fourTablesOfSixRows() {
        FreezeDif x = new FreezeDif(2);
        for (int k = 0; k < 16; k++) {
            x.atom(k);
        }
        int v = x.variable(0);
        int w = x.variable(1);
        for (int row = 0; row < 6; row++) {
            for (int table = 0; table < 4; table++) {
                Due.due("row", x.addRow(table, (5 * table + row) % 16, 4 * table), row);
            }
        }
        for (int table = 0; table < 4; table++) {
            Due.due("a seventh row", x.addRow(table, 0, 1), FreezeDif.FULL);
            x.goal(table, v, w);
            Due.due("rows of table " + table, x.solve(), 6);
            for (int row = 0; row < 6; row++) {
                Due.due("left", x.valueOf(row, 0), (5 * table + row) % 16 + 1);
                Due.due("right", x.valueOf(row, 1), 4 * table + 1);
            }
            x.forget();
        }
    }

    /** "up to 4 goals, up to 4 equations and up to 6 disequalities", all at once. */
    private static void everyPlaceOfAFullQueryCounts() {
        for (int broken = -1; broken < 14; broken++) {
            FreezeDif x = Make.withRows(2);
            for (int i = 0; i < 14; i++) {
                boolean holds = i != broken;
                if (i < 4) {
                    Due.due("goal", x.goal(0, 3, holds ? 4 : 3), i);
                } else if (i < 8) {
                    Due.due("equation", x.equal(3, holds ? 3 : 4), i - 3);
                } else {
                    Due.due("disequality", x.differ(3, holds ? 4 : 3), i - 7);
                }
            }
            Due.due("one more goal", x.goal(0, 3, 4), FreezeDif.FULL);
            Due.due("one more equation", x.equal(3, 4), FreezeDif.FULL);
            Due.due("one more disequality", x.differ(3, 3), FreezeDif.FULL);
            Due.due("place " + broken + " is broken", x.solve(), broken < 0 ? 3 : 0);
        }
    }

    /** "a frozen goal means the same as a plain one", whichever goals are frozen. */
    private static void aFrozenGoalMeansTheSame() {
        for (int frozen = 0; frozen < 16; frozen++) {
            FreezeDif x = Make.withRows(5);
            for (int g = 0; g < 4; g++) {
                boolean plain = (frozen >> g & 1) == 0;
                int left = 3 + g;
                int answer = plain ? x.goal(0, left, left + 1) : x.freeze(4 - g, 0, left, left + 1);
                Due.due("goal " + g, answer, g);
            }
            Due.due("solve, frozen " + frozen, x.solve(), 3);
            for (int k = 0; k < 3; k++) {
                for (int g = 0; g < 4; g++) {
                    Due.due("row of goal " + g, x.rowOf(k, g), (k + g) % 3);
                    Due.due("value", x.valueOf(k, g), (k + g) % 3 + 1);
                }
            }
        }
    }

    /** "A CHOICE picks one row for every goal (of the goal's table)." */
    private static void aChoiceForEveryGoal() {
        FreezeDif x = Make.withRows(6);
        x.addRow(3, 0, 0);
        x.addRow(3, 1, 1);
        int solutions = 1;
        int[] tables = {0, 3, 0};
        for (int g = 0; g < 3; g++) {
            x.goal(tables[g], 3 + 2 * g, 4 + 2 * g);
            solutions *= tables[g] == 0 ? 3 : 2;
            Due.due("goals that have no variable in common", x.solve(), solutions);
        }
        x.goal(3, 0, 0);
        Due.due("a goal without variables", x.solve(), solutions);
        x.forget();
        x.goal(0, 0, 2);
        Due.due("no row is like the goal", x.solve(), 0);
    }

    /** An empty table leaves a goal nothing to pick, at whatever place the goal stands. */
    private static void noChoiceFromAnEmptyTable() {
        for (int empty = 0; empty < 4; empty++) {
            for (int goals = empty + 1; goals <= 4; goals++) {
                FreezeDif x = Make.withRows(2);
                for (int g = 0; g < goals; g++) {
                    x.goal(g == empty ? 1 : 0, 3, 4);
                }
                Due.due("goal " + empty + " of " + goals, x.solve(), 0);
                Due.due("solutions", x.solutions(), 0);
                x.addRow(1, 0, 1);
                Due.due("with a row", x.solve(), 1);
            }
        }
    }

    /** "A query without goals has exactly one choice." */
    private static void aQueryWithoutGoals() {
        for (State state : State.values()) {
            FreezeDif x = state.make();
            x.forget();
            Due.due(state + ", the empty query", x.solve(), 1);
            Due.due("solutions", x.solutions(), 1);
            Due.due("no goal has a row", x.rowOf(0, 0), FreezeDif.BAD);
            Due.due("no variable has a value", x.valueOf(0, 0), FreezeDif.BAD);
            Due.due("it is like itself", x.alike(0, 0, -1), true);
            Due.due("there is no other", x.alike(0, 1, 0), false);
        }
        FreezeDif x = Make.withRows(1);
        x.equal(0, 0);
        x.differ(0, 1);
        Due.due("all hold", x.solve(), 1);
        x.differ(2, 2);
        Due.due("a disequality does not hold", x.solve(), 0);
        x.forget();
        x.equal(0, 1);
        Due.due("an equation does not hold", x.solve(), 0);
    }

    /** "with the variables replaced": 7 leaves of 13 cells each make the largest terms of all. */
    private static void termsThatGrowWhenReplaced() {
        FreezeDif x = Make.withCells(2);
        int large = chain(x, leaves(0, 0), false);
        int other = chain(x, leaves(6, 1), false);
        x.addRow(0, large, large);
        x.addRow(0, large, other);
        x.goal(0, 3, 4);
        int[] same = {3, 3, 3, 3, 3, 3, 3};
        int[] mixed = {4, 3, 3, 3, 3, 3, 4};
        int s = chain(x, same, true);
        int t = chain(x, mixed, true);
        x.equal(s, t);
        Due.due("the same where both values are", x.solve(), 1);
        Due.due("row", x.rowOf(0, 0), 0);
        x.forget();
        x.goal(0, 3, 4);
        x.differ(s, t);
        Due.due("not the same where the last leaf is another", x.solve(), 1);
        Due.due("row", x.rowOf(0, 0), 1);
    }
}
