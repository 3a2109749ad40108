import java.util.function.ToLongFunction;

/**
 * Promise 17, and the 512 calls that an object is used for. The order of the refusals is tested
 * with each promise too; here all calls stand beside each other, in every state.
 */
public final class OrderTest {
    private static final int BAD = FreezeDif.BAD;
    private static final int FULL = FreezeDif.FULL;

    public static void main(String[] args) {
        fullBeforeBad();
        badBeforeFull();
        badChangesNothing();
        fullChangesNothing();
        looseChangesNothing();
        questionsChangeNothing();
        theLastOf512Calls();
        Due.finish();
    }

    /** "variable and pair: FULL is tested before BAD, as in atom". */
    private static void fullBeforeBad() {
        for (int wrong : Make.outside(0, 47)) {
            FreezeDif x = State.FULL.make();
            Due.due("atom " + wrong, x.atom(wrong), FULL);
            Due.due("variable " + wrong, x.variable(wrong), FULL);
            Due.due("pair " + wrong, x.pair(wrong, wrong), FULL);
            Due.due("cells", x.clear(), 48);
        }
    }

    /** "goal, freeze, equal and differ: BAD is tested before FULL." */
    private static void badBeforeFull() {
        for (int wrong : Make.outside(0, 47)) {
            FreezeDif x = State.FULL.make();
            Due.due("goal, table " + wrong, x.goal(wrong, 0, 0), BAD);
            Due.due("goal, x " + wrong, x.goal(0, wrong, 0), BAD);
            Due.due("goal, y " + wrong, x.goal(0, 0, wrong), BAD);
            Due.due("freeze, v " + wrong, x.freeze(wrong, 0, 0, 0), BAD);
            Due.due("freeze, table " + wrong, x.freeze(0, wrong, 0, 0), BAD);
            Due.due("freeze, x " + wrong, x.freeze(0, 0, wrong, 0), BAD);
            Due.due("freeze, y " + wrong, x.freeze(0, 0, 0, wrong), BAD);
            Due.due("equal, x " + wrong, x.equal(wrong, 0), BAD);
            Due.due("equal, y " + wrong, x.equal(0, wrong), BAD);
            Due.due("differ, x " + wrong, x.differ(wrong, 0), BAD);
            Due.due("differ, y " + wrong, x.differ(0, wrong), BAD);
        }
    }

    /** "A call that answers BAD ... changes nothing: a solved query stays solved." */
    private static void badChangesNothing() {
        for (State state : State.values()) {
            badCellsChangeNothing(state);
            badRowsChangeNothing(state);
            badQueriesChangeNothing(state);
        }
    }

    /** The call must answer what is due, and the object tell what one without the call tells. */
    private static void refused(State state, String call, long want,
            ToLongFunction<FreezeDif> made) {
        FreezeDif x = state.make();
        Due.due(state + ", " + call, made.applyAsLong(x), want);
        Due.due(state + ", " + call + ", again", made.applyAsLong(x), want);
        Told.same(state + ", " + call, x, state.make());
    }

    private static void badCellsChangeNothing(State state) {
        int want = state.isFull() ? FULL : BAD;
        for (int k : Make.outside(0, 15)) {
            refused(state, "atom " + k, want, x -> x.atom(k));
        }
        for (int v : Make.outside(0, 1)) {
            refused(state, "variable " + v, want, x -> x.variable(v));
        }
        for (int cell : Make.outside(0, 47)) {
            refused(state, "pair " + cell + ", 0", want, x -> x.pair(cell, 0));
            refused(state, "pair 0, " + cell, want, x -> x.pair(0, cell));
        }
        refused(state, "a pair of size 15", want, x -> x.pair(10, 0));
        refused(state, "a pair of size 15", want, x -> x.pair(0, 10));
        refused(state, "a pair of size 27", want, x -> x.pair(10, 10));
    }

    private static void badRowsChangeNothing(State state) {
        for (int wrong : Make.outside(0, 47)) {
            refused(state, "addRow, table " + wrong, BAD, x -> x.addRow(wrong, 0, 0));
            refused(state, "addRow, left " + wrong, BAD, x -> x.addRow(0, wrong, 0));
            refused(state, "addRow, right " + wrong, BAD, x -> x.addRow(3, 0, wrong));
        }
        refused(state, "addRow, table 4", BAD, x -> x.addRow(4, 0, 0));
        refused(state, "addRow, left not ground", BAD, x -> x.addRow(0, 3, 0));
        refused(state, "addRow, right not ground", BAD, x -> x.addRow(0, 0, 4));
        int there = state.isFull() ? FULL : BAD;
        refused(state, "addRow, there already", there, x -> x.addRow(0, 0, 1));
    }

    private static void badQueriesChangeNothing(State state) {
        for (int wrong : Make.outside(0, 47)) {
            refused(state, "goal, table " + wrong, BAD, x -> x.goal(wrong, 3, 4));
            refused(state, "goal, x " + wrong, BAD, x -> x.goal(0, wrong, 4));
            refused(state, "goal, y " + wrong, BAD, x -> x.goal(0, 3, wrong));
            refused(state, "freeze, v " + wrong, BAD, x -> x.freeze(wrong, 0, 3, 4));
            refused(state, "freeze, table " + wrong, BAD, x -> x.freeze(1, wrong, 3, 3));
            refused(state, "freeze, x " + wrong, BAD, x -> x.freeze(1, 0, wrong, 3));
            refused(state, "freeze, y " + wrong, BAD, x -> x.freeze(1, 0, 3, wrong));
            refused(state, "equal, x " + wrong, BAD, x -> x.equal(wrong, 4));
            refused(state, "equal, y " + wrong, BAD, x -> x.equal(3, wrong));
            refused(state, "differ, x " + wrong, BAD, x -> x.differ(wrong, 3));
            refused(state, "differ, y " + wrong, BAD, x -> x.differ(3, wrong));
        }
        refused(state, "goal, table 4", BAD, x -> x.goal(4, 3, 4));
        refused(state, "freeze, table 4", BAD, x -> x.freeze(1, 4, 3, 3));
        refused(state, "freeze, v 2", BAD, x -> x.freeze(2, 0, 3, 4));
    }

    /** "A call that answers ... FULL ... changes nothing", where everything is full. */
    private static void fullChangesNothing() {
        State[] full = {State.FULL, State.FULL_SOLVED};
        for (State state : full) {
            refused(state, "atom", FULL, x -> x.atom(0));
            refused(state, "variable", FULL, x -> x.variable(1));
            refused(state, "pair", FULL, x -> x.pair(0, 1));
            for (int table = 0; table < 4; table++) {
                int t = table;
                refused(state, "addRow", FULL, x -> x.addRow(t, 2, 2));
                refused(state, "goal", FULL, x -> x.goal(t, 0, 0));
                refused(state, "freeze", FULL, x -> x.freeze(t % 2, t, 0, 0));
            }
            refused(state, "equal", FULL, x -> x.equal(0, 1));
            refused(state, "differ", FULL, x -> x.differ(0, 0));
        }
        // Only the goals are full here, so a freezing that was kept would make the query loose.
        FreezeDif x = Make.withRows(2);
        for (int g = 0; g < 4; g++) {
            x.goal(0, 3, 1);
        }
        Due.due("freeze on a variable of no goal", x.freeze(1, 0, 4, 4), FULL);
        Due.due("it is not kept", x.solve(), 1);
        Due.due("freeze, no such cell", x.freeze(1, 0, 4, 5), BAD);
        Due.due("still solved", x.solutions(), 1);
    }

    /** "A call that answers ... LOOSE changes nothing". */
    private static void looseChangesNothing() {
        refused(State.LOOSE, "solve", FreezeDif.LOOSE, x -> x.solve());
    }

    /** What asks for a solution that is not there, or for one before solve(), changes nothing. */
    private static void questionsChangeNothing() {
        for (State state : State.values()) {
            int want = state.isSolved() ? BAD : FreezeDif.UNSOLVED;
            for (int wrong : Make.outside(0, 5)) {
                refused(state, "rowOf, k " + wrong, want, x -> x.rowOf(wrong, 0));
                refused(state, "rowOf, goal " + wrong, want, x -> x.rowOf(0, wrong));
                refused(state, "valueOf, k " + wrong, want, x -> x.valueOf(wrong, 0));
                refused(state, "valueOf, v " + wrong, want, x -> x.valueOf(0, wrong));
                refused(state, "alike", 0, x -> x.alike(wrong, wrong, -1) ? 1 : 0);
            }
        }
    }

    /** "An object is used for at most 512 calls": the last of them is as good as the first. */
    private static void theLastOf512Calls() {
        FreezeDif x = new FreezeDif(2);
        int calls = 0;
        while (calls + 15 <= 512 - 2) {
            Due.due("atom", x.atom(calls % 16), 0);
            Due.due("variable", x.variable(1), 1);
            Due.due("pair", x.pair(0, 0), 2);
            Due.due("addRow", x.addRow(3, 0, 2), 0);
            Due.due("goal", x.goal(3, 0, 1), 0);
            Due.due("freeze", x.freeze(1, 3, 0, 1), 1);
            Due.due("equal", x.equal(1, 2), 1);
            Due.due("differ", x.differ(0, 1), 1);
            Due.due("solve", x.solve(), 1);
            Due.due("solutions", x.solutions(), 1);
            Due.due("rowOf", x.rowOf(0, 1), 0);
            int digit = calls % 16 + 1;
            Due.due("valueOf", x.valueOf(0, 1), (17 * 18 + digit) * 18 + digit);
            Due.due("alike", x.alike(0, 0, 2), true);
            Due.due("forget", x.forget(), 2);
            Due.due("clear", x.clear(), 3);
            calls += 15;
        }
        Due.due("the call before the last", x.atom(0), 0);
        Due.due("the 512th call", x.clear(), 1);
    }
}
