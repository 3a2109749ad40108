/** Objects in the states that several tests begin with. */
final class Make {
    /** Numbers that are no cell, table, row, goal or variable anywhere. */
    static final int[] WILD = {-1, -2, 48, 49, 1000, Integer.MIN_VALUE, Integer.MAX_VALUE};

    private Make() {
    }

    /** Cells 0..2 are the atoms 0..2, and the cells from 3 on the variables 0..variables-1. */
    static FreezeDif withCells(int variables) {
        FreezeDif x = new FreezeDif(variables);
        for (int k = 0; k < 3; k++) {
            x.atom(k);
        }
        for (int v = 0; v < variables; v++) {
            x.variable(v);
        }
        return x;
    }

    /** As withCells, and table 0 has the rows (0, 1), (1, 2), (2, 0) of atoms. */
    static FreezeDif withRows(int variables) {
        FreezeDif x = withCells(variables);
        x.addRow(0, 0, 1);
        x.addRow(0, 1, 2);
        x.addRow(0, 2, 0);
        return x;
    }

    /** As withRows, with the goal (variable 0, variable 1) on table 0, solved: three solutions. */
    static FreezeDif solved(int variables) {
        FreezeDif x = withRows(variables);
        x.goal(0, 3, 4);
        x.solve();
        return x;
    }

    /** All 48 cells are there, each the atom 0. */
    static FreezeDif fullOfAtoms(int variables) {
        FreezeDif x = new FreezeDif(variables);
        for (int i = 0; i < 48; i++) {
            x.atom(0);
        }
        return x;
    }
}
