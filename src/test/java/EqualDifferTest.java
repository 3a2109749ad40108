/** Promises 8 and 9: what equations and disequalities have in common is tested for both. */
public final class EqualDifferTest {
    public static void main(String[] args) {
        for (int kind = 0; kind < 2; kind++) {
            theyAreCounted(kind == 1);
            wrongArguments(kind == 1);
            badIsTestedBeforeFull(kind == 1);
            aSolvedQueryBecomesUnsolved(kind == 1);
            everyOneMustHold(kind == 1);
        }
        theyAreCountedApart();
        equationsBetweenValues();
        disequalitiesBetweenValues();
        largeTerms();
        Due.finish();
    }

    private static int add(FreezeDif x, boolean differ, int s, int t) {
        return differ ? x.differ(s, t) : x.equal(s, t);
    }

    private static int most(boolean differ) {
        return differ ? 6 : 4;
    }

    private static void theyAreCounted(boolean differ) {
        FreezeDif x = Make.withCells(1);
        for (int n = 1; n <= most(differ); n++) {
            Due.due("number " + n, add(x, differ, 0, 3), n);
        }
        Due.due("one too many", add(x, differ, 0, 3), FreezeDif.FULL);
        Due.due("they are no goals", x.forget(), 0);
        Due.due("the first after forget", add(x, differ, 0, 3), 1);
    }

    private static void wrongArguments(boolean differ) {
        FreezeDif x = Make.withCells(1);
        Due.due("x is the next cell", add(x, differ, 4, 0), FreezeDif.BAD);
        Due.due("y is the next cell", add(x, differ, 0, 4), FreezeDif.BAD);
        for (int wild : Make.WILD) {
            Due.due("x is " + wild, add(x, differ, wild, 0), FreezeDif.BAD);
            Due.due("y is " + wild, add(x, differ, 0, wild), FreezeDif.BAD);
        }
        Due.due("none was added", add(x, differ, 0, 0), 1);
    }

    private static void badIsTestedBeforeFull(boolean differ) {
        FreezeDif x = Make.withCells(1);
        for (int n = 0; n < most(differ); n++) {
            add(x, differ, 0, 0);
        }
        Due.due("full, x wrong", add(x, differ, 4, 0), FreezeDif.BAD);
        Due.due("full, y wrong", add(x, differ, 0, -1), FreezeDif.BAD);
        Due.due("full", add(x, differ, 0, 0), FreezeDif.FULL);
    }

    private static void aSolvedQueryBecomesUnsolved(boolean differ) {
        FreezeDif x = Make.solved(2);
        int holding = differ ? 4 : 3;
        Due.due("a wrong one", add(x, differ, 5, 3), FreezeDif.BAD);
        Due.due("still solved", x.solutions(), 3);
        Due.due("one that always holds", add(x, differ, 3, holding), 1);
        Due.due("unsolved", x.solutions(), FreezeDif.UNSOLVED);
        for (int n = 1; n < most(differ); n++) {
            add(x, differ, 3, holding);
        }
        Due.due("solve", x.solve(), 3);
        Due.due("one too many", add(x, differ, 3, holding), FreezeDif.FULL);
        Due.due("still solved", x.solutions(), 3);
    }

    private static void everyOneMustHold(boolean differ) {
        int holding = differ ? 1 : 0;
        int failing = differ ? 0 : 1;
        for (int broken = 0; broken < most(differ); broken++) {
            FreezeDif x = Make.withCells(1);
            for (int n = 0; n < most(differ); n++) {
                add(x, differ, 0, n == broken ? failing : holding);
            }
            Due.due("number " + broken + " does not hold", x.solve(), 0);
        }
        FreezeDif x = Make.withCells(1);
        for (int n = 0; n < most(differ); n++) {
            add(x, differ, 0, holding);
        }
        Due.due("all hold", x.solve(), 1);
    }

    private static void theyAreCountedApart() {
        FreezeDif x = Make.withCells(1);
        for (int n = 1; n <= 4; n++) {
            Due.due("equation " + n, x.equal(0, 0), n);
            Due.due("disequality " + n, x.differ(0, 1), n);
        }
        Due.due("equations are full", x.equal(0, 0), FreezeDif.FULL);
        Due.due("disequalities are not", x.differ(0, 1), 5);
        Due.due("goals are not", x.goal(0, 0, 0), 0);
    }

    private static void equationsBetweenValues() {
        FreezeDif x = Make.solved(2);
        x.equal(3, 1);
        Due.due("variable 0 is atom 1", x.solve(), 1);
        Due.due("its row", x.rowOf(0, 0), 1);
        x.equal(2, 4);
        Due.due("variable 1 is atom 2", x.solve(), 1);
        x.equal(3, x.pair(3, 4));
        Due.due("no term is a part of itself", x.solve(), 0);
        x.forget();
        x.goal(0, 3, 4);
        x.equal(x.pair(3, 2), x.pair(0, x.atom(2)));
        Due.due("a pair with a variable and a ground pair", x.solve(), 1);
        x.equal(x.pair(3, 4), 3);
        Due.due("a pair and an atom", x.solve(), 0);
    }

    private static void disequalitiesBetweenValues() {
        FreezeDif x = Make.withRows(3);
        x.goal(0, 3, 4);
        x.goal(0, 5, 4);
        Due.due("variables 0 and 2 are the same", x.solve(), 3);
        x.differ(x.pair(3, 4), x.pair(5, 1));
        Due.due("one differing part is enough", x.solve(), 2);
        Due.due("the rows left", x.rowOf(0, 0), 1);
        Due.due("the rows left", x.rowOf(1, 0), 2);
        x.differ(x.pair(3, 4), x.pair(5, 4));
        Due.due("the same pair", x.solve(), 0);
    }

    private static void largeTerms() {
        FreezeDif x = Make.withCells(2);
        int large = 0;
        for (int i = 0; i < 6; i++) {
            large = x.pair(0, large);
        }
        x.addRow(0, large, large);
        x.goal(0, 3, 4);
        int s = 3;
        int t = 4;
        for (int i = 0; i < 6; i++) {
            s = x.pair(4, s);
            t = x.pair(3, t);
        }
        x.equal(s, t);
        Due.due("seven large values on each side", x.solve(), 1);
        x.differ(s, x.pair(4, 4));
        Due.due("and a part of them", x.solve(), 1);
        int crossLeft = x.pair(3, 3);
        int crossRight = x.pair(x.pair(0, 4), 3);
        x.differ(crossLeft, crossRight);
        Due.due("values inside values", x.solve(), 1);
        x.forget();
        int deep = x.pair(0, 3);
        x.addRow(1, 0, large);
        x.goal(1, 0, deep);
        x.goal(0, 4, 4);
        x.equal(4, deep);
        Due.due("a value against a term with a variable", x.solve(), 1);
        x.equal(x.pair(3, 4), x.pair(3, deep));
        Due.due("the same inside a pair", x.solve(), 1);
        x.differ(x.pair(4, deep), x.pair(deep, 4));
        Due.due("and on both sides", x.solve(), 0);
    }
}
