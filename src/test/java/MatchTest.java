import java.util.ArrayList;
import java.util.Arrays;
import java.util.List;

/**
 * Of "Terms" what a solution is: "for every goal x is the same as the chosen row's left and y the
 * same as its right; both terms of every equation are the same; the two terms of every disequality
 * are not the same", for terms of every shape up to the largest. A shape is written from the front:
 * P is a pair, then its first part, then its second part, and a dot is a leaf.
 */
public final class MatchTest {
    private static final int MOST_LEAVES = 7;

    public static void main(String[] args) {
        for (int leaves = 1; leaves <= MOST_LEAVES; leaves++) {
            for (String shape : shapes(leaves)) {
                goals(shape, leaves);
                equationsAndDisequalities(shape, leaves);
                oneVariableEverywhere(shape, leaves);
            }
        }
        Due.finish();
    }

    private static List<String> shapes(int leaves) {
        List<String> all = new ArrayList<>();
        if (leaves == 1) {
            all.add(".");
        }
        for (int first = 1; first < leaves; first++) {
            for (String a : shapes(first)) {
                for (String b : shapes(leaves - first)) {
                    all.add("P" + a + b);
                }
            }
        }
        return all;
    }

    /** Makes the term of a shape whose leaves are the given cells, from the left. */
    private static int term(FreezeDif x, String shape, int[] leaves) {
        return part(x, shape, leaves, new int[2]);
    }

    /** Makes the part that begins at read[0] in the shape, with the leaves from read[1] on. */
    private static int part(FreezeDif x, String shape, int[] leaves, int[] read) {
        if (shape.charAt(read[0]++) == '.') {
            return leaves[read[1]++];
        }
        int a = part(x, shape, leaves, read);
        int b = part(x, shape, leaves, read);
        return x.pair(a, b);
    }

    /** Leaves that go round through six cells, starting with the first and going up or down. */
    private static int[] round(int start, int step, int count) {
        int[] cells = new int[count];
        for (int i = 0; i < count; i++) {
            cells[i] = start + step * (i % 6);
        }
        return cells;
    }

    /** Cells 0..7 are the atoms 0..7, and the cells 8..13 the variables 0..5. */
    private static FreezeDif atomsAndVariables() {
        FreezeDif x = new FreezeDif(6);
        for (int k = 0; k < 8; k++) {
            x.atom(k);
        }
        for (int v = 0; v < 6; v++) {
            x.variable(v);
        }
        return x;
    }

    /** A goal's term with a variable at every leaf takes the leaves of each row as their values. */
    private static void goals(String shape, int leaves) {
        FreezeDif x = atomsAndVariables();
        int up = term(x, shape, round(0, 1, leaves));
        int down = term(x, shape, round(7, -1, leaves));
        int pattern = term(x, shape, round(8, 1, leaves));
        x.addRow(0, up, 0);
        x.addRow(0, down, 0);
        x.addRow(1, 0, up);
        x.addRow(1, 0, down);
        x.goal(0, pattern, 0);
        valuesOfBothRows(x, shape + " in x", leaves);
        x.forget();
        x.goal(1, 0, pattern);
        valuesOfBothRows(x, shape + " in y", leaves);
        x.goal(0, pattern, 0);
        valuesOfBothRows(x, shape + " in both", leaves);
    }

    private static void valuesOfBothRows(FreezeDif x, String what, int leaves) {
        Due.due(what + ", solve", x.solve(), 2);
        for (int v = 0; v < 6 && v < leaves; v++) {
            Due.due(what + ", first row, variable " + v, x.valueOf(0, v), v + 1);
            Due.due(what + ", second row, variable " + v, x.valueOf(1, v), 8 - v);
        }
    }

    /** One leaf is a variable that the rows make atom 0 or atom 1; all the others are atom 0. */
    private static void equationsAndDisequalities(String shape, int leaves) {
        for (int place = 0; place < leaves; place++) {
            FreezeDif x = atomsAndVariables();
            x.addRow(0, 0, 0);
            x.addRow(0, 1, 1);
            int[] cells = new int[leaves];
            int ground = term(x, shape, cells);
            cells[place] = 8;
            int open = term(x, shape, cells);
            oneOfTwoRows(x, shape + ", leaf " + place, ground, open);
            oneOfTwoRows(x, shape + ", leaf " + place + ", turned round", open, ground);
        }
    }

    private static void oneOfTwoRows(FreezeDif x, String what, int s, int t) {
        x.forget();
        x.goal(0, 8, 8);
        x.equal(s, t);
        Due.due(what + ", equation", x.solve(), 1);
        Due.due(what + ", equation, its row", x.rowOf(0, 0), 0);
        x.forget();
        x.goal(0, 8, 8);
        x.differ(s, t);
        Due.due(what + ", disequality", x.solve(), 1);
        Due.due(what + ", disequality, its row", x.rowOf(0, 0), 1);
    }

    /** "every variable" has one value: a term that has it at all leaves fits only such a row. */
    private static void oneVariableEverywhere(String shape, int leaves) {
        FreezeDif x = atomsAndVariables();
        int[] cells = new int[leaves];
        x.addRow(0, term(x, shape, cells), 0);
        cells[leaves - 1] = 1;
        x.addRow(0, term(x, shape, cells), 0);
        Arrays.fill(cells, 13);
        int open = term(x, shape, cells);
        Due.due(shape + ", it is not ground", x.addRow(0, open, 0), FreezeDif.BAD);
        x.goal(0, open, 0);
        Due.due(shape + ", one variable", x.solve(), leaves == 1 ? 2 : 1);
        Due.due(shape + ", its value", x.valueOf(0, 5), 1);
        x.forget();
        x.equal(open, open);
        Due.due(shape + ", loose", x.solve(), FreezeDif.LOOSE);
    }
}
