/** Promise 17: a call that answers BAD, FULL or LOOSE changes nothing. */
public final class OrderTest {
    public static void main(String[] args) {
        fullBeforeBad();
        badBeforeFull();
        refusedCallsLeaveASolvedQuery();
        refusedCallsLeaveAnUnsolvedQuery();
        looseChangesNothing();
        Due.finish();
    }

    private static void fullBeforeBad() {
        FreezeDif x = Make.fullOfAtoms(2);
        for (int wild : Make.WILD) {
            Due.due("atom " + wild, x.atom(wild), FreezeDif.FULL);
            Due.due("variable " + wild, x.variable(wild), FreezeDif.FULL);
            Due.due("pair " + wild, x.pair(wild, wild), FreezeDif.FULL);
        }
        Due.due("cells", x.clear(), 48);
    }

    private static FreezeDif full() {
        FreezeDif x = Make.withRows(2);
        for (int i = 0; i < 6; i++) {
            x.goal(0, 3, 4);
            x.equal(3, 3);
            x.differ(3, 4);
        }
        return x;
    }

    private static void badBeforeFull() {
        FreezeDif x = full();
        for (int wild : Make.WILD) {
            Due.due("goal, table " + wild, x.goal(wild, 0, 0), FreezeDif.BAD);
            Due.due("goal, x " + wild, x.goal(0, wild, 0), FreezeDif.BAD);
            Due.due("goal, y " + wild, x.goal(0, 0, wild), FreezeDif.BAD);
            Due.due("freeze, v " + wild, x.freeze(wild, 0, 0, 0), FreezeDif.BAD);
            Due.due("freeze, table " + wild, x.freeze(0, wild, 0, 0), FreezeDif.BAD);
            Due.due("freeze, x " + wild, x.freeze(0, 0, wild, 0), FreezeDif.BAD);
            Due.due("freeze, y " + wild, x.freeze(0, 0, 0, wild), FreezeDif.BAD);
            Due.due("equal, x " + wild, x.equal(wild, 0), FreezeDif.BAD);
            Due.due("equal, y " + wild, x.equal(0, wild), FreezeDif.BAD);
            Due.due("differ, x " + wild, x.differ(wild, 0), FreezeDif.BAD);
            Due.due("differ, y " + wild, x.differ(0, wild), FreezeDif.BAD);
        }
    }

    /** Calls that answer BAD or FULL, one for every number from 0 to 16. */
    private static void refused(FreezeDif x, int which) {
        switch (which) {
            case 0: Due.due("atom", x.atom(16), FreezeDif.BAD); break;
            case 1: Due.due("variable", x.variable(2), FreezeDif.BAD); break;
            case 2: Due.due("pair", x.pair(0, 48), FreezeDif.BAD); break;
            case 3: Due.due("addRow, table", x.addRow(4, 0, 0), FreezeDif.BAD); break;
            case 4: Due.due("addRow, not ground", x.addRow(0, 3, 0), FreezeDif.BAD); break;
            case 5: Due.due("addRow, there", x.addRow(0, 0, 1), FreezeDif.BAD); break;
            case 6: Due.due("goal, bad", x.goal(-1, 0, 0), FreezeDif.BAD); break;
            case 7: Due.due("goal, full", x.goal(3, 0, 0), FreezeDif.FULL); break;
            case 8: Due.due("freeze, bad", x.freeze(2, 3, 0, 0), FreezeDif.BAD); break;
            case 9: Due.due("freeze, full", x.freeze(1, 3, 0, 0), FreezeDif.FULL); break;
            case 10: Due.due("equal, bad", x.equal(0, 48), FreezeDif.BAD); break;
            case 11: Due.due("equal, full", x.equal(0, 1), FreezeDif.FULL); break;
            case 12: Due.due("differ, bad", x.differ(48, 0), FreezeDif.BAD); break;
            case 13: Due.due("differ, full", x.differ(0, 0), FreezeDif.FULL); break;
            case 14: Due.due("freeze, no cell", x.freeze(0, 0, 0, 48), FreezeDif.BAD); break;
            case 15: Due.due("goal, no cell", x.goal(0, 48, 0), FreezeDif.BAD); break;
            default: Due.due("addRow, no cell", x.addRow(0, 48, 0), FreezeDif.BAD); break;
        }
    }

    private static void refusedCallsLeaveASolvedQuery() {
        for (int which = 0; which <= 16; which++) {
            FreezeDif x = full();
            Due.due("solve", x.solve(), 3);
            refused(x, which);
            Due.due("still solved", x.solutions(), 3);
            Due.due("the same row", x.rowOf(1, 3), 1);
            Due.due("the same value", x.valueOf(1, 1), 3);
            Due.due("the same solutions", x.alike(0, 1, 3), false);
            Due.due("goals", x.forget(), 4);
            Due.due("cells", x.clear(), 5);
        }
        FreezeDif x = full();
        for (int row = 3; row < 6; row++) {
            x.addRow(0, 0, row == 3 ? 0 : x.pair(0, row - 4));
        }
        int solutions = x.solve();
        Due.due("addRow, full", x.addRow(0, 2, 2), FreezeDif.FULL);
        Due.due("still solved", x.solutions(), solutions);
        Due.due("rowOf, bad", x.rowOf(-1, 0), FreezeDif.BAD);
        Due.due("valueOf, bad", x.valueOf(0, 9), FreezeDif.BAD);
        Due.due("still solved", x.solutions(), solutions);
    }

    private static void refusedCallsLeaveAnUnsolvedQuery() {
        for (int which = 0; which <= 16; which++) {
            FreezeDif x = full();
            refused(x, which);
            Due.due("still unsolved", x.solutions(), FreezeDif.UNSOLVED);
            Due.due("the next row", x.addRow(0, 0, 0), 3);
            Due.due("the next cell", x.atom(0), 5);
            Due.due("solve", x.solve(), 3);
        }
    }

    private static void looseChangesNothing() {
        FreezeDif x = Make.withRows(2);
        x.goal(0, 3, 1);
        x.differ(4, 0);
        Due.due("solve", x.solve(), FreezeDif.LOOSE);
        Due.due("unsolved", x.solutions(), FreezeDif.UNSOLVED);
        Due.due("unsolved", x.rowOf(0, 0), FreezeDif.UNSOLVED);
        Due.due("unsolved", x.valueOf(0, 0), FreezeDif.UNSOLVED);
        Due.due("not alike", x.alike(0, 0, 0), false);
        Due.due("the goal is there", x.goal(0, 4, 3), 1);
        Due.due("the disequality is there", x.differ(0, 1), 2);
        Due.due("solve", x.solve(), 1);
    }
}
