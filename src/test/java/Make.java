import java.util.stream.IntStream;

/** Objects and numbers that several tests begin with. */
final class Make {
    private Make() {
    }

    /**
     * Numbers outside least..greatest: the nearest on each side, the smallest and the greatest int,
     * and some that would fall inside if only their lowest 5, 6, 8 or 16 bits were looked at.
     */
    static int[] outside(int least, int greatest) {
        int min = Integer.MIN_VALUE;
        int max = Integer.MAX_VALUE;
        IntStream numbers = IntStream.of(least - 1, greatest + 1, min, min + 1, max - 1, max,
            least + 32, least + 64, least + 256, least + 65536,
            least - 32, least - 64, least - 256, least - 65536, min + least, min + greatest);
        return numbers.filter(n -> n < least || n > greatest).distinct().toArray();
    }

    /** Cells 0..count-1, each the atom 0. */
    static FreezeDif atoms(int variables, int count) {
        FreezeDif x = new FreezeDif(variables);
        for (int i = 0; i < count; i++) {
            x.atom(0);
        }
        return x;
    }

    /** Cells 0..count-1: an atom, a variable and a pair by turns. */
    static FreezeDif mixedCells(int count) {
        FreezeDif x = new FreezeDif(1);
        for (int i = 0; i < count; i++) {
            if (i % 3 == 0) {
                x.atom(0);
            } else if (i % 3 == 1) {
                x.variable(0);
            } else {
                x.pair(0, 0);
            }
        }
        return x;
    }

    /** Cells 0..2 are the atoms 0..2, and the cells from 3 on the variables 0..variables-1. */
    static FreezeDif withCells(int variables) {
        FreezeDif x = new FreezeDif(variables);
        for (int k = 0; k < 3; k++) {
            x.atom(k);
        }
        for (int v = 0; v < variables; v++) {
            x.variable(v);
        }
        return x;
    }

    /** As withCells, and table 0 has the rows (0, 1), (1, 2), (2, 0) of atoms. */
    static FreezeDif withRows(int variables) {
        FreezeDif x = withCells(variables);
        x.addRow(0, 0, 1);
        x.addRow(0, 1, 2);
        x.addRow(0, 2, 0);
        return x;
    }

    /** As withRows, with the goal (variable 0, variable 1) on table 0, solved: three solutions. */
    static FreezeDif solved(int variables) {
        FreezeDif x = withRows(variables);
        x.goal(0, 3, 4);
        x.solve();
        return x;
    }

    /** Adds the first count of the rows (0, 0), (0, 1), (0, 2), (1, 0), (1, 1), (1, 2). */
    static void addRows(FreezeDif x, int table, int count) {
        for (int row = 0; row < count; row++) {
            x.addRow(table, row / 3, row % 3);
        }
    }

    /**
     * Atoms 0..5 are the cells 0..5 and variable v is cell 6 + v. Table 2 has the rows (0, 0) to
     * (0, 5), and goal g has variable g + 2 as its y: 1296 solutions, the most that can be.
     */
    static FreezeDif mostSolutions() {
        FreezeDif x = new FreezeDif(6);
        for (int k = 0; k < 6; k++) {
            x.atom(k);
        }
        for (int v = 0; v < 6; v++) {
            x.variable(v);
        }
        for (int row = 0; row < 6; row++) {
            x.addRow(2, 0, row);
        }
        for (int g = 0; g < 4; g++) {
            x.goal(2, 0, 6 + g + 2);
        }
        x.solve();
        return x;
    }
}
