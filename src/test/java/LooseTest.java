/**
 * Of "Terms" what makes a query loose, and of promise 10 what solve() answers then. Each test
 * stands for the sentence, or the part of one, that is written over it.
 */
public final class LooseTest {
    public static void main(String[] args) {
        looseQueries();
        everyPlaceCanBeLoose();
        onlyTheWordsCount();
        queriesThatAreNotLoose();
        variablesOutsideTheQuery();
        itStaysUnsolved();
        looseThenMended();
        Due.finish();
    }

    private static void loose(FreezeDif x, String what) {
        Due.due(what, x.solve(), FreezeDif.LOOSE);
        Due.due(what + ", again", x.solve(), FreezeDif.LOOSE);
        Due.due(what + ", solutions", x.solutions(), FreezeDif.UNSOLVED);
        x.forget();
    }

    /** "in an equation, in a disequality, or is one that a goal is frozen on", for each v. */
    private static void looseQueries() {
        for (int v = 0; v < 6; v++) {
            int cell = 3 + v;
            FreezeDif x = Make.withRows(6);
            int inside = x.pair(0, x.pair(cell, 1));
            x.freeze(v, 0, 0, 1);
            loose(x, "frozen on it alone");
            x.equal(cell, 0);
            loose(x, "left in an equation");
            x.equal(0, inside);
            loose(x, "right in an equation, inside");
            x.differ(inside, 0);
            loose(x, "left in a disequality, inside");
            x.differ(0, cell);
            loose(x, "right in a disequality");
            x.goal(0, 3 + (v + 1) % 6, 3 + (v + 2) % 6);
            x.differ(cell, 0);
            loose(x, "a goal with other variables");
        }
        FreezeDif x = Make.withRows(1);
        x.freeze(0, 0, 0, 1);
        loose(x, "the only variable that there is");
    }

    /** "a goal", "an equation", "a disequality": whichever of them it is. */
    private static void everyPlaceCanBeLoose() {
        for (int at = 0; at < 4; at++) {
            FreezeDif x = Make.withRows(2);
            for (int i = 0; i < 4; i++) {
                x.freeze(i == at ? 1 : 0, 0, 3, 1);
            }
            loose(x, "frozen goal " + at);
            x.goal(0, 3, 1);
            for (int i = 0; i < 4; i++) {
                x.equal(3, i == at ? 4 : 3);
            }
            loose(x, "equation " + at);
        }
        for (int at = 0; at < 6; at++) {
            FreezeDif x = Make.withRows(2);
            x.goal(0, 3, 1);
            for (int i = 0; i < 6; i++) {
                x.differ(i == at ? 4 : 3, 2);
            }
            loose(x, "disequality " + at);
        }
    }

    /** "iff some variable occurs": whether there is a choice, or it matters, plays no part. */
    private static void onlyTheWordsCount() {
        FreezeDif x = Make.withRows(2);
        x.equal(3, 3);
        loose(x, "an equation that holds anyhow");
        x.differ(3, 3);
        loose(x, "a disequality that never holds");
        x.goal(3, 0, 0);
        x.equal(3, 0);
        loose(x, "a goal with an empty table");
        x.goal(0, 0, 2);
        x.differ(3, 0);
        loose(x, "a goal that no row fits");
        x.equal(0, 1);
        x.differ(0, 3);
        loose(x, "an equation that never holds beside it");
        x.goal(0, 3, 1);
        x.equal(3, 4);
        loose(x, "an equation that would settle the variable");
    }

    /** "and occurs in no goal's terms x or y": one place in one goal is enough. */
    private static void queriesThatAreNotLoose() {
        for (int v = 0; v < 6; v++) {
            int cell = 3 + v;
            FreezeDif x = Make.withRows(6);
            x.addRow(1, x.pair(0, 1), 0);
            x.addRow(1, 0, x.pair(1, 0));
            for (int before = 0; before < 4; before++) {
                for (int g = 0; g < before; g++) {
                    x.freeze(v, 0, 0, 1);
                }
                x.goal(0, cell, 1);
                x.equal(cell, 0);
                x.differ(1, cell);
                Due.due("it stands in goal " + before, x.solve(), 1);
                x.forget();
            }
            x.freeze(v, 0, 0, cell);
            Due.due("it stands in the frozen goal's own y", x.solve(), 1);
            x.forget();
            x.freeze(v, 1, x.pair(cell, 1), 0);
            Due.due("it stands inside a goal's x", x.solve(), 1);
            x.forget();
            x.differ(0, cell);
            x.goal(1, 0, x.pair(1, cell));
            Due.due("it stands inside a goal's y", x.solve(), 0);
            x.forget();
            x.goal(3, cell, cell);
            x.equal(cell, 0);
            Due.due("it stands in a goal with an empty table", x.solve(), 0);
        }
    }

    /** A variable that has cells but stands nowhere in the query is no matter. */
    private static void variablesOutsideTheQuery() {
        FreezeDif x = Make.withRows(6);
        x.addRow(0, 0, 0);
        Due.due("the empty query", x.solve(), 1);
        x.equal(0, 0);
        x.differ(0, 1);
        Due.due("ground equations and disequalities", x.solve(), 1);
        x.goal(0, 0, 1);
        Due.due("a ground goal", x.solve(), 1);
        x.goal(0, 3, 3);
        Due.due("variables of goals alone", x.solve(), 1);
    }

    /** "LOOSE if the query is loose (it stays unsolved)"; promise 17: and nothing changes. */
    private static void itStaysUnsolved() {
        FreezeDif x = Make.withRows(2);
        x.goal(0, 3, 1);
        x.differ(4, 0);
        Due.due("solve", x.solve(), FreezeDif.LOOSE);
        Due.due("unsolved", x.solutions(), FreezeDif.UNSOLVED);
        Due.due("unsolved", x.rowOf(0, 0), FreezeDif.UNSOLVED);
        Due.due("unsolved", x.valueOf(0, 0), FreezeDif.UNSOLVED);
        Due.due("not alike", x.alike(0, 0, 0), false);
        Due.due("the goal is there", x.goal(0, 4, 3), 1);
        Due.due("the disequality is there", x.differ(0, 1), 2);
        Due.due("solve", x.solve(), 1);
        x = Make.solved(2);
        x.forget();
        x.equal(4, 4);
        Due.due("loose after a solved query", x.solve(), FreezeDif.LOOSE);
        Due.due("its solutions are gone", x.solutions(), FreezeDif.UNSOLVED);
    }

    private static void looseThenMended() {
        FreezeDif x = Make.withRows(2);
        x.freeze(1, 0, 3, 1);
        Due.due("loose", x.solve(), FreezeDif.LOOSE);
        x.goal(0, 4, 4);
        Due.due("not loose any more", x.solve(), 0);
        x.equal(4, 3);
        Due.due("nor with an equation", x.solve(), 0);
        x.forget();
        x.goal(0, 3, 1);
        Due.due("forget forgets the freezing", x.solve(), 1);
    }
}
