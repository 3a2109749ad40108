/**
 * States of an object with two variables in which calls are looked at. In all of them but NEW the
 * cells 0..2 are the atoms 0..2, the cells 3 and 4 the variables 0 and 1, and cell 10 is a ground
 * term of size 13.
 */
enum State {
    NEW, NO_QUERY, NO_QUERY_SOLVED, UNSOLVED, SOLVED, NO_SOLUTION, LOOSE, FULL, FULL_SOLVED;

    FreezeDif make() {
        if (this == NEW) {
            return new FreezeDif(2);
        }
        FreezeDif x = cells();
        if (isFull()) {
            fill(x);
        } else {
            x.addRow(0, 0, 1);
            x.addRow(0, 1, 2);
            x.addRow(0, 2, 10);
            x.addRow(3, 10, 0);
            addQuery(x);
        }
        if (isSolved() || this == LOOSE) {
            x.solve();
        }
        return x;
    }

    /** Whether everything that has a limit stands at its limit. */
    boolean isFull() {
        return this == FULL || this == FULL_SOLVED;
    }

    boolean isSolved() {
        return this == NO_QUERY_SOLVED || this == SOLVED || this == NO_SOLUTION
            || this == FULL_SOLVED;
    }

    /** The number of solutions of a state that is solved. */
    int solutions() {
        return this == NO_SOLUTION ? 0 : this == NO_QUERY_SOLVED ? 1 : this == SOLVED ? 3 : 4;
    }

    private static FreezeDif cells() {
        FreezeDif x = Make.withCells(2);
        x.pair(0, 1);
        for (int cell = 6; cell <= 10; cell++) {
            x.pair(2, cell - 1);
        }
        return x;
    }

    private void addQuery(FreezeDif x) {
        switch (this) {
            case UNSOLVED, SOLVED -> {
                x.goal(0, 3, 4);
                x.equal(3, 3);
                x.differ(3, 4);
            }
            case NO_SOLUTION -> {
                x.goal(0, 3, 4);
                x.equal(3, 4);
            }
            case LOOSE -> {
                x.freeze(1, 0, 3, 1);
                x.differ(3, 2);
            }
            default -> { }
        }
    }

    /** 48 cells, 6 rows in every table, 4 goals, 4 equations and 6 disequalities. */
    private static void fill(FreezeDif x) {
        for (int cell = 11; cell < 48; cell++) {
            x.atom(cell % 16);
        }
        for (int table = 0; table < 4; table++) {
            Make.addRows(x, table, 5);
            // Atoms 12 to 15, so that a change of the last cells can be seen in the tables.
            x.addRow(table, 47 - table, 2);
        }
        for (int i = 0; i < 2; i++) {
            x.goal(0, 3, 4);
            x.freeze(i, 0, 3, 4);
        }
        for (int i = 0; i < 4; i++) {
            x.equal(4, 4);
        }
        for (int i = 0; i < 6; i++) {
            x.differ(3, 4);
        }
    }
}
