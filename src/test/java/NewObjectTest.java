/** Promise 1. */
public final class NewObjectTest {
    public static void main(String[] args) {
        variablesAreClamped();
        everythingIsEmpty();
        objectsAreApart();
        Due.finish();
    }

    private static void variablesAreClamped() {
        int[] given = {Integer.MIN_VALUE, -1, 0, 1, 2, 3, 4, 5, 6, 7, 100, Integer.MAX_VALUE};
        int[] kept = {1, 1, 1, 1, 2, 3, 4, 5, 6, 6, 6, 6};
        for (int i = 0; i < given.length; i++) {
            String made = "new FreezeDif(" + given[i] + "): variable";
            FreezeDif x = new FreezeDif(given[i]);
            Due.due(made + " the last", x.variable(kept[i] - 1), 0);
            Due.due(made + " one too many", x.variable(kept[i]), FreezeDif.BAD);
        }
    }

    private static void everythingIsEmpty() {
        FreezeDif x = new FreezeDif(2);
        Due.due("goal without cells", x.goal(0, 0, 0), FreezeDif.BAD);
        Due.due("solutions", x.solutions(), FreezeDif.UNSOLVED);
        Due.due("forget", x.forget(), 0);
        Due.due("clear", x.clear(), 0);
        Due.due("first cell", x.atom(0), 0);
        for (int table = 0; table < 4; table++) {
            Due.due("first row of table " + table, x.addRow(table, 0, 0), 0);
        }
        Due.due("first goal", x.goal(0, 0, 0), 0);
        Due.due("first equation", x.equal(0, 0), 1);
        Due.due("first disequality", x.differ(0, 0), 1);
    }

    private static void objectsAreApart() {
        FreezeDif one = Make.solved(2);
        FreezeDif other = new FreezeDif(1);
        Due.due("the other's cell", other.atom(0), 0);
        Due.due("the other's solutions", other.solutions(), FreezeDif.UNSOLVED);
        Due.due("the one's solutions", one.solutions(), 3);
    }
}
