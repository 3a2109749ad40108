/**
 * Promises 8 and 9: what equations and disequalities have in common is tested for both. Each test
 * stands for the sentence, or the part of one, that is written over it.
 */
public final class EqualDifferTest {
    public static void main(String[] args) {
        for (int kind = 0; kind < 2; kind++) {
            boolean differ = kind == 1;
            theyAreCounted(differ);
            termsThatAreNoCells(differ);
            badIsTestedBeforeFull(differ);
            aSolvedQueryBecomesUnsolved(differ);
            aRefusedOneLeavesASolvedQuery(differ);
            everyOneMustHold(differ);
        }
        theyAreCountedApart();
        equationsBetweenValues();
        disequalitiesBetweenValues();
        largeTerms();
        Due.finish();
    }

    private static int add(FreezeDif x, boolean differ, int s, int t) {
        return differ ? x.differ(s, t) : x.equal(s, t);
    }

    private static int most(boolean differ) {
        return differ ? 6 : 4;
    }

    /** "answers the number of equations that there are now"; "4 (6) are there: FULL". */
    private static void theyAreCounted(boolean differ) {
        FreezeDif x = Make.withCells(1);
        for (int n = 1; n <= most(differ); n++) {
            Due.due("number " + n, add(x, differ, 0, 3), n);
        }
        Due.due("one too many", add(x, differ, 0, 3), FreezeDif.FULL);
        Due.due("and again", add(x, differ, 3, 3), FreezeDif.FULL);
        Due.due("they are no goals", x.forget(), 0);
        for (int n = 1; n <= most(differ); n++) {
            Due.due("after forget, number " + n, add(x, differ, 3, 3), n);
        }
        Due.due("one too many", add(x, differ, 0, 0), FreezeDif.FULL);
    }

    /** "x or y no cell's number: BAD", and the last cell's number is taken. */
    private static void termsThatAreNoCells(boolean differ) {
        int[] counts = {1, 2, 47, 48};
        for (int count : counts) {
            for (int wrong : Make.outside(0, count - 1)) {
                FreezeDif x = Make.atoms(1, count);
                Due.due(count + " cells, x " + wrong, add(x, differ, wrong, 0), FreezeDif.BAD);
                Due.due(count + " cells, y " + wrong, add(x, differ, 0, wrong), FreezeDif.BAD);
                Due.due(count + " cells, both", add(x, differ, wrong, wrong), FreezeDif.BAD);
                Due.due("the last cell", add(x, differ, count - 1, count - 1), 1);
            }
        }
        for (int wrong : Make.outside(0, -1)) {
            FreezeDif x = new FreezeDif(1);
            Due.due("no cells, " + wrong, add(x, differ, wrong, wrong), FreezeDif.BAD);
        }
    }

    /** Promise 17: "equal and differ: BAD is tested before FULL." */
    private static void badIsTestedBeforeFull(boolean differ) {
        FreezeDif x = Make.withCells(1);
        for (int n = 0; n < most(differ); n++) {
            add(x, differ, 0, 0);
        }
        for (int wrong : Make.outside(0, 3)) {
            Due.due("full, x " + wrong, add(x, differ, wrong, 0), FreezeDif.BAD);
            Due.due("full, y " + wrong, add(x, differ, 0, wrong), FreezeDif.BAD);
            Due.due("full, both " + wrong, add(x, differ, wrong, wrong), FreezeDif.BAD);
        }
        Due.due("full, all in order", add(x, differ, 0, 0), FreezeDif.FULL);
    }

    /** "If the query is solved it becomes unsolved." */
    private static void aSolvedQueryBecomesUnsolved(boolean differ) {
        for (State state : State.values()) {
            if (!state.isSolved() || state.isFull()) {
                continue;
            }
            FreezeDif x = state.make();
            Due.due(state + ", solutions before", x.solutions(), state.solutions());
            Due.due(state + ", one more", add(x, differ, 0, differ ? 1 : 0) >= 1, true);
            Due.due(state + ", unsolved", x.solutions(), FreezeDif.UNSOLVED);
            Due.due(state + ", rowOf", x.rowOf(0, 0), FreezeDif.UNSOLVED);
            Due.due(state + ", valueOf", x.valueOf(0, 0), FreezeDif.UNSOLVED);
            Due.due(state + ", alike", x.alike(0, 0, 0), false);
            Due.due(state + ", solve", x.solve(), state.solutions());
        }
    }

    /** Promise 17: "a solved query stays solved" where the equation or disequality is refused. */
    private static void aRefusedOneLeavesASolvedQuery(boolean differ) {
        FreezeDif x = Make.solved(2);
        Due.due("no such x", add(x, differ, 5, 3), FreezeDif.BAD);
        Due.due("no such y", add(x, differ, 3, -1), FreezeDif.BAD);
        Due.due("still solved", x.solutions(), 3);
        x = State.FULL_SOLVED.make();
        Due.due("full", add(x, differ, 0, differ ? 0 : 1), FreezeDif.FULL);
        Due.due("still solved", x.solutions(), State.FULL_SOLVED.solutions());
    }

    private static void everyOneMustHold(boolean differ) {
        int holding = differ ? 1 : 0;
        int failing = differ ? 0 : 1;
        for (int broken = -1; broken < most(differ); broken++) {
            FreezeDif x = Make.withCells(1);
            for (int n = 0; n < most(differ); n++) {
                add(x, differ, 0, n == broken ? failing : holding);
            }
            Due.due("number " + broken + " does not hold", x.solve(), broken < 0 ? 1 : 0);
        }
    }

    /** Equations, disequalities and goals each have a limit of their own. */
    private static void theyAreCountedApart() {
        FreezeDif x = Make.withCells(1);
        for (int n = 1; n <= 4; n++) {
            Due.due("equation " + n, x.equal(0, 0), n);
            Due.due("disequality " + n, x.differ(0, 1), n);
        }
        Due.due("equations are full", x.equal(0, 0), FreezeDif.FULL);
        Due.due("disequalities are not", x.differ(0, 1), 5);
        Due.due("disequalities are not", x.differ(0, 1), 6);
        Due.due("disequalities are full", x.differ(0, 1), FreezeDif.FULL);
        for (int g = 0; g < 4; g++) {
            Due.due("goals are not", x.goal(0, 0, 0), g);
        }
        x.forget();
        for (int n = 1; n <= 6; n++) {
            x.differ(0, 1);
        }
        Due.due("disequalities are full, equations not", x.equal(0, 0), 1);
    }

    private static void equationsBetweenValues() {
        FreezeDif x = Make.solved(2);
        x.equal(3, 1);
        Due.due("variable 0 is atom 1", x.solve(), 1);
        Due.due("its row", x.rowOf(0, 0), 1);
        x.equal(2, 4);
        Due.due("variable 1 is atom 2", x.solve(), 1);
        x.equal(3, x.pair(3, 4));
        Due.due("no term is a part of itself", x.solve(), 0);
        x.forget();
        x.goal(0, 3, 4);
        x.equal(x.pair(3, 2), x.pair(0, x.atom(2)));
        Due.due("a pair with a variable and a ground pair", x.solve(), 1);
        x.equal(x.pair(3, 4), 3);
        Due.due("a pair and an atom", x.solve(), 0);
    }

    private static void disequalitiesBetweenValues() {
        FreezeDif x = Make.withRows(3);
        x.goal(0, 3, 4);
        x.goal(0, 5, 4);
        Due.due("variables 0 and 2 are the same", x.solve(), 3);
        x.differ(x.pair(3, 4), x.pair(5, 1));
        Due.due("one differing part is enough", x.solve(), 2);
        Due.due("the rows left", x.rowOf(0, 0), 1);
        Due.due("the rows left", x.rowOf(1, 0), 2);
        x.differ(x.pair(3, 4), x.pair(5, 4));
        Due.due("the same pair", x.solve(), 0);
    }

    private static void largeTerms() {
        FreezeDif x = Make.withCells(2);
        int large = 0;
        for (int i = 0; i < 6; i++) {
            large = x.pair(0, large);
        }
        x.addRow(0, large, large);
        x.goal(0, 3, 4);
        int s = 3;
        int t = 4;
        for (int i = 0; i < 6; i++) {
            s = x.pair(4, s);
            t = x.pair(3, t);
        }
        x.equal(s, t);
        Due.due("seven large values on each side", x.solve(), 1);
        x.differ(s, x.pair(4, 4));
        Due.due("and a part of them", x.solve(), 1);
        int crossLeft = x.pair(3, 3);
        int crossRight = x.pair(x.pair(0, 4), 3);
        x.differ(crossLeft, crossRight);
        Due.due("values inside values", x.solve(), 1);
        x.forget();
        int deep = x.pair(0, 3);
        x.addRow(1, 0, large);
        x.goal(1, 0, deep);
        x.goal(0, 4, 4);
        x.equal(4, deep);
        Due.due("a value against a term with a variable", x.solve(), 1);
        x.equal(x.pair(3, 4), x.pair(3, deep));
        Due.due("the same inside a pair", x.solve(), 1);
        x.differ(x.pair(4, deep), x.pair(deep, 4));
        Due.due("and on both sides", x.solve(), 0);
    }
}
