import java.util.ArrayList;
import java.util.List;

/**
 * What an object tells of its state, as a list of calls with their answers: up to some 300 calls,
 * which use the object up. It is made for objects that came from State.
 */
final class Told {
    private final FreezeDif x;
    private final List<String> answers = new ArrayList<>();

    private Told(FreezeDif x) {
        this.x = x;
    }

    static List<String> by(FreezeDif x) {
        Told told = new Told(x);
        told.solutions();
        told.tell("solve()", x.solve());
        told.solutions();
        told.roomInTheQuery();
        told.tell("forget()", x.forget());
        told.tables();
        told.newCells();
        told.tell("clear()", x.clear());
        return told.answers;
    }

    /** The two objects must tell the same. */
    static void same(String what, FreezeDif got, FreezeDif want) {
        List<String> gotAnswers = by(got);
        List<String> wantAnswers = by(want);
        int most = Math.min(gotAnswers.size(), wantAnswers.size());
        int at = 0;
        while (at < most && gotAnswers.get(at).equals(wantAnswers.get(at))) {
            at++;
        }
        String seen = at == most ? "" : ": " + gotAnswers.get(at) + ", not " + wantAnswers.get(at);
        Due.due(what + ", the same state" + seen, gotAnswers.equals(wantAnswers), true);
    }

    private int tell(String call, long answer) {
        answers.add(call + " " + answer);
        return (int) answer;
    }

    private void solutions() {
        int count = tell("solutions()", x.solutions());
        int last = Math.min(4, Math.max(0, count));
        for (int k = -1; k <= last; k++) {
            for (int g = -1; g <= 4; g++) {
                tell("rowOf(" + k + ", " + g + ")", x.rowOf(k, g));
            }
            for (int v = -1; v <= 2; v++) {
                answers.add("valueOf(" + k + ", " + v + ") " + x.valueOf(k, v));
            }
            for (int mask = 1; mask <= 3; mask++) {
                answers.add("alike(0, " + k + ", " + mask + ") " + x.alike(0, k, mask));
            }
        }
    }

    private void roomInTheQuery() {
        // A goal with both variables, so that a loose query shows what else it holds.
        while (tell("goal(0, 3, 4)", x.goal(0, 3, 4)) >= 0) {
            tell("solve()", x.solve());
        }
        while (tell("equal(0, 0)", x.equal(0, 0)) >= 0) {
            tell("solve()", x.solve());
        }
        while (tell("differ(0, 1)", x.differ(0, 1)) >= 0) {
            tell("solve()", x.solve());
        }
    }

    private void tables() {
        for (int table = 0; table < 4; table++) {
            tell("goal(" + table + ", 3, 4)", x.goal(table, 3, 4));
            int count = tell("solve()", x.solve());
            for (int k = 0; k < count; k++) {
                answers.add("left " + x.valueOf(k, 0) + ", right " + x.valueOf(k, 1));
            }
            tell("forget()", x.forget());
        }
    }

    private void newCells() {
        int a = tell("atom(9)", x.atom(9));
        int v = tell("variable(0)", x.variable(0));
        int w = tell("variable(1)", x.variable(1));
        tell("variable(2)", x.variable(2));
        int aa = tell("pair(a, a)", x.pair(a, a));
        int va = tell("pair(v, a)", x.pair(v, a));
        for (int table = 0; table < 4; table++) {
            tell("addRow(" + table + ", aa, a)", x.addRow(table, aa, a));
            tell("goal(" + table + ", va, w)", x.goal(table, va, w));
        }
        tell("solve()", x.solve());
        solutions();
    }
}
